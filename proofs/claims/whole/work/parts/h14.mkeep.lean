/-! ===== the reference: a property kept ===== -/
theorem wq_ad {a b : Nat} (h : a + b < 2147483648) : Int32.ofNat a + Int32.ofNat b = Int32.ofNat (a + b) := by
  apply wi_eq.mpr
  rw [wi_add, wi_on (by omega), wi_on (by omega), wi_on h, wr_id (by omega) (by omega)]
  omega
theorem wq_mu {a b : Nat} (h : a * b < 2147483648) (ha : a < 2147483648) (hb : b < 2147483648) : Int32.ofNat a * Int32.ofNat b = Int32.ofNat (a * b) := by
  apply wi_eq.mpr
  have e : ((a : Int) * (b : Int)) = ((a * b : Nat) : Int) := by simp
  rw [wi_mul, wi_on ha, wi_on hb, wi_on h, e, wr_id (by omega) (by omega)]
/-- which nodes have a sequence; few and light ones -/
def fw_s (S : rn_N) (x : Nat) : Bool := decide (rn_k S x = 61 ∨ rn_k S x = 32 ∨ rn_k S x = 33 ∨ rn_k S x = 11)
def fw_n (S : rn_N) : Nat → Nat
  | 0 => 0
  | k + 1 => fw_n S k + (if fw_s S k = true then 1 else 0)
def fw_l (S : rn_N) : Nat → Bool
  | 0 => true
  | k + 1 => if fw_s S k = true then fw_l S k && decide (rn_w S (nq_l (rn_d S k)) ≤ 6) else fw_l S k
def fw (S : rn_N) : Bool := decide (fw_n S (rn_n S) ≤ 4) && fw_l S (rn_n S)
theorem fw_n_le (S : rn_N) : ∀ k, fw_n S k ≤ k
  | 0 => Nat.le_refl _
  | k + 1 => by
    have := fw_n_le S k
    show fw_n S k + (if fw_s S k = true then 1 else 0) ≤ k + 1
    split <;> omega
def pm_c374 : wv_c1 := fun as T N I L R q => ∃ k : Nat, as = [.int (Int32.ofNat k)] ∧ k < 100 ∧ q (.inl (some (.int (wb_i (decide (k = 61 ∨ k = 32 ∨ k = 33 ∨ k = 11)))))) T N I L R 0 0
set_option maxRecDepth 100000 in
theorem wM_374 : ∃ cb ci np, pt_mt 374 = some (32, cb, 1, false, some .boolean, ci, np) := ⟨_, _, _, rfl⟩
set_option maxRecDepth 100000 in
set_option maxHeartbeats 4000000 in
theorem pm_hasSeq {sc : pt_Sc} {d : Nat} : wv_C wm_fx sc (d + 1) 374 pm_c374 := by
  rintro as T N I L R q ⟨k, rfl, hk, h⟩ w0 HR
  obtain ⟨cb, ci, np, hm⟩ := wM_374
  refine wv_meth (hh := none) rfl (sp := fun _ _ _ _ _ _ _ _ => False) (hd := fun _ => none) (n := 0) (n1 := 300) hm zc_374 rfl (fun k as T N I L R q h => by cases h) ?_ (fun pc P h => by cases h) HR
  have c61 := ap_k (a := k) (b := 61) (k := (Int8.ofInt 61).toInt32) (by omega) (by omega) rfl
  have c32 := ap_k (a := k) (b := 32) (k := (Int8.ofInt 32).toInt32) (by omega) (by omega) rfl
  have c33 := ap_k (a := k) (b := 33) (k := (Int8.ofInt 33).toInt32) (by omega) (by omega) rfl
  have c11 := ap_k (a := k) (b := 11) (k := (Int8.ofInt 11).toInt32) (by omega) (by omega) rfl
  have yes : (k = 61 ∨ k = 32 ∨ k = 33 ∨ k = 11) → q (.inl (some (.int (Int32.ofInt 1)))) T N I L R 0 0 := fun z => by
    rw [decide_eq_true z] at h
    exact h
  refine ⟨fun w => ⟨⟨rfl, rfl⟩, yes (Or.inl (c61.mp w))⟩, fun w61 => ⟨fun w => ⟨⟨rfl, rfl⟩, yes (Or.inr (Or.inl (c32.mp w)))⟩, fun w32 => ⟨fun w => ⟨⟨rfl, rfl⟩, yes (Or.inr (Or.inr (Or.inl (c33.mp w))))⟩, fun w33 => ⟨fun w => ?_, fun w => ?_⟩⟩⟩⟩
  · refine ⟨⟨rfl, rfl⟩, ?_⟩
    rw [decide_eq_false (fun z => by
      rcases z with z | z | z | z
      · exact w61 (c61.mpr z)
      · exact w32 (c32.mpr z)
      · exact w33 (c33.mpr z)
      · exact w (c11.mpr z))] at h
    exact h
  · exact ⟨⟨rfl, rfl⟩, yes (Or.inr (Or.inr (Or.inr (c11.mp (Decidable.not_not.mp w)))))⟩
def pm_h373 (S : rn_N) (T : wv_T) (N : Nat) (I : Nat → Nat → Int32) (L : Nat → Nat → Int64) (R : Nat → Nat → Option Nat) : Nat → Option (Nat → wv_P) := fun pc =>
  if pc = 6 then some (fun mm lv st T1 N1 I1 L1 R1 nc ns => ∃ k : Nat, k ≤ rn_n S ∧ mm = 2 * (rn_n S - k) ∧ lv = [some (.ref 460), some (.int (Int32.ofNat (fw_n S k))), some (.int (wb_i (fw_l S k))), some (.int (Int32.ofNat k)), none] ∧ st = [] ∧ T1 = T ∧ N1 = N ∧ I1 = I ∧ L1 = L ∧ R1 = R ∧ nc = 0 ∧ ns = 0)
  else if pc = 55 then some (fun mm lv st T1 N1 I1 L1 R1 nc ns => ∃ k : Nat, k < rn_n S ∧ mm = 2 * (rn_n S - k) - 1 ∧ lv = [some (.ref 460), some (.int (Int32.ofNat (fw_n S (k + 1)))), some (.int (wb_i (fw_l S (k + 1)))), some (.int (Int32.ofNat k)), none] ∧ st = [] ∧ T1 = T ∧ N1 = N ∧ I1 = I ∧ L1 = L ∧ R1 = R ∧ nc = 0 ∧ ns = 0)
  else none
def pm_c373 : wv_c1 := fun as T N I L R q => ∃ (S : rn_N) (m0 : Nat), as = [.ref 460] ∧ wm_T T ∧ pn_M I S m0 ∧ rn_n S ≤ 500 ∧ rn_i S ∧ rn_q S ∧ (∀ x, x < rn_n S → rn_k S x < 100) ∧ q (.inl (some (.int (wb_i (fw S))))) T N I L R 0 0
set_option maxRecDepth 100000 in
theorem wM_373 : ∃ cb ci np, pt_mt 373 = some (32, cb, 4, false, some .boolean, ci, np) := ⟨_, _, _, rfl⟩
set_option maxRecDepth 100000 in
set_option maxHeartbeats 4000000 in
theorem pm_few {sc : pt_Sc} {d : Nat} : wv_C wm_fx sc (d + 1 + 1) 373 pm_c373 := by
  rintro as T N I L R q ⟨S, m0, rfl, hT, hM, hn, hi, hq, hk, h⟩ w0 HR
  obtain ⟨cb, ci, np, hm⟩ := wM_373
  have hc374 : wv_C wm_fx sc (d + 1) 374 pm_c374 := wv_C_deep (by omega) (pm_hasSeq (d := d))
  refine wv_meth (hh := none) rfl (sp := wv_sp [(374, pm_c374)]) (hd := pm_h373 S T N I L R) (n := 300) (n1 := 300) hm zc_373 rfl (wv_sp_ok (fun q hq => by rw [List.mem_singleton.mp hq]; exact hc374)) ?_ ?_ HR
  · exact ⟨_, 0, by omega, rfl, rfl, rfl, rfl, rfl, rfl, rfl, rfl, rfl, rfl⟩
  · intro pc P hP m lv st T1 N1 I1 L1 R1 nc ns hh
    unfold pm_h373 at hP
    split at hP
    · cases hP
      rename_i hpc
      subst hpc
      obtain ⟨k, hkn, rfl, rfl, rfl, rfl, rfl, rfl, rfl, rfl, rfl, rfl⟩ := hh
      have ek := wi_on (n := k) (by omega)
      have ekn := wi_onn (n := k) (by omega)
      have en := wi_on (n := rn_n S) (by omega)
      have hfn := fw_n_le S k
      have ef := wi_on (n := fw_n S k) (by omega)
      refine ⟨fun w => ?_, fun w => ?_⟩
      · rw [hM.1, wi_le, ek, en] at w
        have e : k = rn_n S := by omega
        subst e
        have e4 : (Int32.ofInt 4).toInt = 4 := rfl
        have fin : ∀ b, b = fw S → q (.inl (some (.int (wb_i b)))) T1 N1 I1 L1 R1 0 0 := fun b hb => by rw [hb]; exact h
        refine ⟨fun w2 => ?_, fun w2 => ?_⟩
        · rw [wi_lt, ef, e4] at w2
          refine ⟨⟨rfl, rfl⟩, fin false ?_⟩
          unfold fw
          rw [decide_eq_false (by omega)]
          rfl
        · rw [wi_lt, ef, e4] at w2
          refine ⟨fun w3 => ?_, fun w3 => ?_⟩
          · refine ⟨⟨rfl, rfl⟩, fin false ?_⟩
            unfold fw
            rw [wb_i_0.mp w3, Bool.and_false]
          · refine ⟨⟨rfl, rfl⟩, fin true ?_⟩
            unfold fw
            rw [wb_i_1.mp w3, decide_eq_true (by omega)]
            rfl
      · rw [hM.1, wi_le, ek, en] at w
        have hkl : k < rn_n S := by omega
        have hx := hM.2.2 k hkl
        refine ⟨_, wm_t hT rfl, pp_b (m := k) (c := 800) (by omega) (by omega), ?_⟩
        rw [ekn, hx.1]
        refine ⟨rn_k S k, rfl, hk k hkl, ?_⟩
        have e1 : fw_n S (k + 1) = fw_n S k + (if fw_s S k = true then 1 else 0) := rfl
        have e2 : fw_l S (k + 1) = (if fw_s S k = true then fw_l S k && decide (rn_w S (nq_l (rn_d S k)) ≤ 6) else fw_l S k) := rfl
        refine ⟨fun w2 => ?_, fun w2 => ?_⟩
        · have hs : ¬ fw_s S k = true := fun z => absurd (wb_i_0.mp w2) (by unfold fw_s at z; rw [z]; decide)
          rw [if_neg hs] at e1 e2
          refine ⟨2 * (rn_n S - k) - 1, by omega, k, hkl, rfl, ?_, rfl, rfl, rfl, rfl, rfl, rfl, rfl, rfl⟩
          rw [e1, e2]
          rfl
        · have hs : fw_s S k = true := wb_i_1.mp w2
          rw [if_pos hs] at e1 e2
          have hs2 := of_decide_eq_true hs
          have h60 : ¬ rn_k S k = 60 := by omega
          have hfp : fl_prop (rn_k S k) := by unfold fl_prop; omega
          obtain ⟨_, _, q3, _⟩ := (hq k hkl).2 hfp
          obtain ⟨l1, l2, l3⟩ := q3 (by unfold tr_S; exact hs2)
          have hl := (hx.2.2.2 h60).1
          have hlM := hM.2.2 _ (Nat.lt_trans l1 hkl)
          have eln := wi_onn (n := nq_l (rn_d S k)) (by omega)
          have e6 : ((Int8.ofInt 6).toInt32).toInt = 6 := rfl
          have ew := wi_on (n := rn_w S (nq_l (rn_d S k))) (by omega)
          have nxt : ∀ b, b = fw_l S (k + 1) → [some (Value.ref 460), some (Value.int (Int32.ofNat (fw_n S k) + Int32.ofInt 1)), some (Value.int (wb_i b)), some (Value.int (Int32.ofNat k)), none] = [some (Value.ref 460), some (Value.int (Int32.ofNat (fw_n S (k + 1)))), some (Value.int (wb_i (fw_l S (k + 1)))), some (Value.int (Int32.ofNat k)), none] := fun b hb => by rw [hb, e1, wq_4s]
          refine ⟨fun w3 => ?_, fun w3 => ?_⟩
          · exact ⟨2 * (rn_n S - k) - 1, by omega, k, hkl, rfl, nxt false (by rw [e2, wb_i_0.mp w3]; rfl), rfl, rfl, rfl, rfl, rfl, rfl, rfl, rfl⟩
          · refine ⟨_, wm_t hT rfl, pp_b (m := k) (c := 800) (by omega) (by omega), ?_⟩
            rw [ekn, hl]
            refine ⟨_, wm_t hT rfl, pp_b (m := nq_l (rn_d S k)) (c := 800) (by omega) (by omega), ?_⟩
            rw [eln, hlM.2.1]
            refine ⟨fun w4 => ?_, fun w4 => ?_⟩
            · rw [wi_lt, ew, e6] at w4
              exact ⟨2 * (rn_n S - k) - 1, by omega, k, hkl, rfl, nxt false (by rw [e2, decide_eq_false (show ¬ rn_w S (nq_l (rn_d S k)) ≤ 6 by omega), Bool.and_false]), rfl, rfl, rfl, rfl, rfl, rfl, rfl, rfl⟩
            · rw [wi_lt, ew, e6] at w4
              exact ⟨2 * (rn_n S - k) - 1, by omega, k, hkl, rfl, nxt true (by rw [e2, decide_eq_true (show rn_w S (nq_l (rn_d S k)) ≤ 6 by omega), Bool.and_true, wb_i_1.mp w3]), rfl, rfl, rfl, rfl, rfl, rfl, rfl, rfl⟩
    · split at hP
      · cases hP
        rename_i hpc
        subst hpc
        obtain ⟨k, hkn, rfl, rfl, rfl, rfl, rfl, rfl, rfl, rfl, rfl, rfl⟩ := hh
        refine ⟨2 * (rn_n S - (k + 1)), by omega, k + 1, by omega, rfl, ?_, rfl, rfl, rfl, rfl, rfl, rfl, rfl, rfl⟩
        rw [← wq_4s k]
        rfl
      · cases hP
