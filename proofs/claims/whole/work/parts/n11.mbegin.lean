/-! ===== the reference: where a node makes others begin ===== -/
def fb_M (c lk : Nat) (bg : Nat → Nat → Bool) (I : Nat → Nat → Int32) : Prop := ∀ y t, y < c → t < lk → I 526 (26 * y + t) = wb_i (bg y t)
def fb_u (bg : Nat → Nat → Bool) (a s : Nat) : Nat → Nat → Bool := fun y t => decide (y = a ∧ t = s) || bg y t
theorem fb_u_iff {bg : Nat → Nat → Bool} {a s y t : Nat} : fb_u bg a s y t = true ↔ bg y t = true ∨ (y = a ∧ t = s) := by
  unfold fb_u
  rw [Bool.or_eq_true, decide_eq_true_iff]
  exact Or.comm
theorem fb_M_u {c lk a s : Nat} {bg : Nat → Nat → Bool} {I : Nat → Nat → Int32} (h : fb_M c lk bg I) (hl : lk ≤ 26) (hs : s < lk) : fb_M c lk (fb_u bg a s) (wv_u I 526 (26 * a + s) 1) := fun y t hy ht => by
  by_cases e : y = a ∧ t = s
  · obtain ⟨rfl, rfl⟩ := e
    rw [wv_u_at]
    unfold fb_u
    rw [decide_eq_true ⟨rfl, rfl⟩]
    rfl
  · rw [wv_u_no _ _ (by omega), h y t hy ht]
    unfold fb_u
    rw [decide_eq_false e, Bool.false_or]
/-- a node that begins at i makes y begin at t -/
def fb_to (S : rn_N) (lk : Nat) (v : Nat → Nat) (en : Nat → Nat → Nat → Bool) (n i y t : Nat) : Prop :=
  (rn_k S n = 32 ∧ y = nq_r (rn_d S n) ∧ i ≤ t ∧ t < lk ∧ en (nq_l (rn_d S n)) i (t + 1) = true) ∨
  (rn_k S n = 33 ∧ y = nq_r (rn_d S n) ∧ i ≤ t ∧ t < lk ∧ en (nq_l (rn_d S n)) i t = true) ∨
  (rn_k S n = 31 ∧ y = nq_r (rn_d S n) ∧ t = i ∧ rn_h S (nq_l (rn_d S n)) (v i) = true) ∨
  (rn_k S n = 10 ∧ y = nq_l (rn_d S n) ∧ i ≤ t ∧ t < lk) ∨
  (rn_k S n = 12 ∧ y = nq_l (rn_d S n) ∧ t = i + nq_a (rn_d S n)) ∨
  (rn_k S n = 13 ∧ y = nq_l (rn_d S n) ∧ i ≤ t ∧ t < lk ∧ ∀ u, i ≤ u → u ≤ t → rn_h S (nq_r (rn_d S n)) (v u) = false) ∨
  (rn_k S n = 15 ∧ (y = nq_l (rn_d S n) ∨ y = nq_r (rn_d S n)) ∧ t = i)
theorem fb_X {T : wv_T} {I J : Nat → Nat → Int32} {S : rn_N} {m0 lk wd : Nat} {v : Nat → Nat} (h : mr_X T I S m0 lk wd v) (g : ∀ c j, ¬ c = 526 → J c j = I c j) : mr_X T J S m0 lk wd v := by
  obtain ⟨h1, ⟨h2, h3, h4, h5⟩, h6, h7, h8, h9, h10⟩ := h
  exact ⟨h1, ⟨(g _ _ (by omega)).trans h2, h3, h4, fun x hx => rw_pn (h5 x hx) (fun c j c1 c2 => g c j (by omega))⟩, (g _ _ (by omega)).trans h6, h7, (g _ _ (by omega)).trans h8, h9, fun k hk => ⟨(g _ _ (by omega)).trans (h10 k hk).1, (h10 k hk).2⟩⟩
/-- children that are there -/
def fb_kid (S : rn_N) (n : Nat) : Prop := (tr_L (rn_k S n) → nq_l (rn_d S n) < rn_n S) ∧ (tr_R (rn_k S n) → nq_r (rn_d S n) < rn_n S) ∧ (rn_k S n = 31 → nq_l (rn_d S n) < rn_n S ∧ rn_k S (nq_l (rn_d S n)) = 60) ∧ (rn_k S n = 13 → nq_r (rn_d S n) < rn_n S ∧ rn_k S (nq_r (rn_d S n)) = 60) ∧ (rn_k S n = 32 ∨ rn_k S n = 33 → nq_l (rn_d S n) < rn_n S) ∧ (rn_k S n = 12 → nq_a (rn_d S n) < 5000)
def fb_e (L : Nat → Nat → Int64) : Nat → Nat → Nat → Bool := fun y i j => mr_e L 492 (172 * y) i j
def fb_l45 (n i : Nat) (x3 x4 : Option Value) : List (Option Value) := [some (.ref 460), some (.int (Int32.ofNat n)), some (.int (Int32.ofNat i)), x3, x4, none, none, none]
def fb_Z (S : rn_N) (lk : Nat) (bg bg1 : Nat → Nat → Bool) (F : Nat → Nat → Prop) (I I1 : Nat → Nat → Int32) : Prop := fb_M (rn_n S) lk bg1 I1 ∧ (∀ y t, t < lk → (bg1 y t = true ↔ bg y t = true ∨ F y t)) ∧ ∀ c j, ¬ c = 526 → I1 c j = I c j
def fb_h445 (S : rn_N) (lk : Nat) (v : Nat → Nat) (n i : Nat) (bg : Nat → Nat → Bool) (T : wv_T) (N : Nat) (I : Nat → Nat → Int32) (L : Nat → Nat → Int64) (R : Nat → Nat → Option Nat) : Nat → Option (Nat → wv_P) := fun pc =>
  if pc = 118 then some (fun mm lv st T1 N1 I1 L1 R1 nc ns => ∃ (j : Nat) (bg1 : Nat → Nat → Bool) (x4 : Option Value), lv = fb_l45 n i (some (.int (Int32.ofNat j))) x4 ∧ st = [] ∧ T1 = T ∧ N1 = N ∧ R1 = R ∧ nc = 0 ∧ ns = 0 ∧ L1 = L ∧ (rn_k S n = 32 ∨ rn_k S n = 33) ∧ i ≤ j ∧ j ≤ lk + 1 ∧ fb_Z S lk bg bg1 (fun y t => y = nq_r (rn_d S n) ∧ i ≤ t ∧ ((rn_k S n = 32 ∧ t + 1 < j ∧ fb_e L (nq_l (rn_d S n)) i (t + 1) = true) ∨ (rn_k S n = 33 ∧ t < j ∧ fb_e L (nq_l (rn_d S n)) i t = true))) I I1 ∧ mm = 100 - j)
  else if pc = 230 then some (fun mm lv st T1 N1 I1 L1 R1 nc ns => ∃ (j : Nat) (bg1 : Nat → Nat → Bool), lv = fb_l45 n i (some (.int (Int32.ofNat j))) none ∧ st = [] ∧ T1 = T ∧ N1 = N ∧ R1 = R ∧ nc = 0 ∧ ns = 0 ∧ L1 = L ∧ rn_k S n = 10 ∧ i ≤ j ∧ j ≤ lk ∧ fb_Z S lk bg bg1 (fun y t => y = nq_l (rn_d S n) ∧ i ≤ t ∧ t < j) I I1 ∧ mm = 100 - j)
  else if pc = 281 then some (fun mm lv st T1 N1 I1 L1 R1 nc ns => ∃ (j : Nat) (bg1 : Nat → Nat → Bool), lv = fb_l45 n i (some (.int (Int32.ofNat j))) none ∧ st = [] ∧ T1 = T ∧ N1 = N ∧ R1 = R ∧ nc = 0 ∧ ns = 0 ∧ L1 = L ∧ rn_k S n = 13 ∧ i ≤ j ∧ j ≤ lk ∧ (∀ u, i ≤ u → u < j → rn_h S (nq_r (rn_d S n)) (v u) = false) ∧ fb_Z S lk bg bg1 (fun y t => y = nq_l (rn_d S n) ∧ i ≤ t ∧ t < j) I I1 ∧ mm = 100 - j)
  else none
def fb_c445 : wv_c1 := fun as T N I L R q => ∃ (S : rn_N) (m0 lk wd n i : Nat) (v : Nat → Nat) (bg : Nat → Nat → Bool), as = [.ref 460, .int (Int32.ofNat n), .int (Int32.ofNat i)] ∧ mr_X T I S m0 lk wd v ∧ n < rn_n S ∧ fl_prop (rn_k S n) ∧ fb_kid S n ∧ i < lk ∧ fb_M (rn_n S) lk bg I ∧ ∀ bg1 I1, fb_Z S lk bg bg1 (fb_to S lk v (fb_e L) n i) I I1 → q (.inl none) T N I1 L R 0 0
theorem fb_Z_0 {S : rn_N} {lk : Nat} {bg : Nat → Nat → Bool} {F : Nat → Nat → Prop} {I : Nat → Nat → Int32} (h : fb_M (rn_n S) lk bg I) (hF : ∀ y t, t < lk → ¬ F y t) : fb_Z S lk bg bg F I I := ⟨h, fun y t ht => ⟨Or.inl, fun z => z.elim id (fun w => (hF y t ht w).elim)⟩, fun _ _ _ => rfl⟩
theorem fb_Z_u {S : rn_N} {lk a s : Nat} {bg bg1 : Nat → Nat → Bool} {F G : Nat → Nat → Prop} {I I1 : Nat → Nat → Int32} (h : fb_Z S lk bg bg1 F I I1) (hl : lk ≤ 26) (hs : s < lk) (hG : ∀ y t, t < lk → (G y t ↔ F y t ∨ (y = a ∧ t = s))) : fb_Z S lk bg (fb_u bg1 a s) G I (wv_u I1 526 (26 * a + s) 1) := ⟨fb_M_u h.1 hl hs, fun y t ht => by
  rw [fb_u_iff, h.2.1 y t ht, hG y t ht]
  exact or_assoc, fun c j z => (wv_u_no _ _ (fun w => z w.1)).trans (h.2.2 c j z)⟩
theorem fb_Z_n {S : rn_N} {lk : Nat} {bg bg1 : Nat → Nat → Bool} {F G : Nat → Nat → Prop} {I I1 : Nat → Nat → Int32} (h : fb_Z S lk bg bg1 F I I1) (hG : ∀ y t, t < lk → (G y t ↔ F y t)) : fb_Z S lk bg bg1 G I I1 := ⟨h.1, fun y t ht => by rw [h.2.1 y t ht, hG y t ht], h.2.2⟩
set_option maxRecDepth 100000 in
theorem wM_445 : ∃ cb ci np, pt_mt 445 = some (32, cb, 5, false, none, ci, np) := ⟨_, _, _, rfl⟩
set_option maxRecDepth 100000 in
set_option maxHeartbeats 4000000 in
theorem fb_beginFrom {sc : pt_Sc} {d : Nat} : wv_C wm_fx sc (d + 1 + 1 + 1) 445 fb_c445 := by
  rintro as T N I L R q ⟨S, m0, lk, wd, n, i, v, bg, rfl, hX, hn, hfl, hkid, hi, hbg, h⟩ w0 HR
  obtain ⟨cb, ci, np, hm⟩ := wM_445
  have hc386 : wv_C wm_fx sc (d + 1 + 1) 386 mr_c386 := wv_C_deep (by omega) (mr_holds (d := d))
  have hc390 : wv_C wm_fx sc (d + 1 + 1) 390 mr_c390 := wv_C_deep (by omega) (mr_ends (d := d))
  have hc444 : wv_C wm_fx sc (d + 1 + 1) 444 fb_c444 := wv_C_deep (by omega) (fb_begin2 (d := d))
  refine wv_meth (hh := none) rfl (sp := wv_sp [(386, mr_c386), (390, mr_c390), (444, fb_c444)]) (hd := fb_h445 S lk v n i bg T N I L R) (n := 300) (n1 := 300) hm zc_445 rfl (wv_sp_ok (fun q hq => by
    rcases List.mem_cons.mp hq with h | h
    · rw [h]; exact hc386
    rcases List.mem_cons.mp h with h | h
    · rw [h]; exact hc390
    rw [List.mem_singleton.mp h]; exact hc444)) ?_ ?_ HR
  · have hT := hX.1
    have hlk := hX.2.2.2.1
    have h49 := hX.2.2.1
    have hn5 := hX.2.1.2.1
    have enn := wi_onn (n := n) (by omega)
    have hk100 : rn_k S n < 100 := by unfold fl_prop at hfl; omega
    have ek := wi_on (n := rn_k S n) (by omega)
    have e469 : I 469 n = Int32.ofNat (rn_k S n) := (hX.2.1.2.2.2 n hn).1
    have e470 : ¬ rn_k S n = 60 → ∀ I2 : Nat → Nat → Int32, (∀ c j, ¬ c = 526 → I2 c j = I c j) → I2 470 n = Int32.ofNat (nq_l (rn_d S n)) := fun z I2 g => (g _ _ (by omega)).trans (mr_nd (hX.2.1.2.2.2 n hn) z).2.1
    have e471 : ¬ rn_k S n = 60 → ∀ I2 : Nat → Nat → Int32, (∀ c j, ¬ c = 526 → I2 c j = I c j) → I2 471 n = Int32.ofNat (nq_r (rn_d S n)) := fun z I2 g => (g _ _ (by omega)).trans (mr_nd (hX.2.1.2.2.2 n hn) z).2.2
    have el := wi_on (n := lk) (by omega)
    have ei := wi_on (n := i) (by omega)
    obtain ⟨kL, kR, k31, k13, k32, k12⟩ := hkid
    have trL : tr_L (rn_k S n) ↔ rn_k S n = 10 ∨ rn_k S n = 12 ∨ rn_k S n = 13 ∨ rn_k S n = 15 := Iff.rfl
    have trR : tr_R (rn_k S n) ↔ (31 ≤ rn_k S n ∧ rn_k S n ≤ 33) ∨ rn_k S n = 15 := Iff.rfl
    refine ⟨_, wm_t hT rfl, pp_b (c := 800) (by omega) (by omega), ?_⟩
    rw [enn, e469]
    refine ⟨fun w => ?_, fun n10 => ⟨fun w => ?_, fun n11 => ⟨fun w => ?_, fun n12 => ⟨fun w => ?_, fun n13 => ⟨fun w => ?_, fun n14 => ⟨fun w => ?_, fun n15 => ⟨fun w => ?_, fun n16 => ⟨fun w => ?_, fun n17 => ⟨fun w => ?_, fun n18 => ⟨fun w => ?_, fun n19 => ⟨fun w => ?_, fun n20 => ⟨fun w => ?_, fun n21 => ⟨fun w => ?_, fun n22 => ⟨fun w => ?_, fun n23 => ⟨fun w => ?_, fun n24 => ⟨fun w => ?_, fun n25 => ⟨fun w => ?_, fun n26 => ⟨fun w => ?_, fun n27 => ⟨fun w => ?_, fun n28 => ⟨fun w => ?_, fun n29 => ⟨fun w => ?_, fun n30 => ⟨fun w => ?_, fun n31 => ⟨fun w => ?_, fun n32 => ⟨fun w => ?_, fun n33 => ?_⟩⟩⟩⟩⟩⟩⟩⟩⟩⟩⟩⟩⟩⟩⟩⟩⟩⟩⟩⟩⟩⟩⟩⟩
    · rw [ek] at w
      exact ⟨100 - i, i, bg, rfl, rfl, rfl, rfl, rfl, rfl, rfl, rfl, by omega, Nat.le_refl _, by omega, fb_Z_0 hbg (fun y t ht z => by omega), rfl⟩
    · rw [ek] at w
      refine h bg I (fb_Z_0 hbg (fun y t ht z => ?_))
      unfold fb_to at z
      omega
    · rw [ek] at w
      have l1 := kL (trL.mpr (by omega))
      have a5 := k12 (by omega)
      have e472 : I 472 n = Int32.ofNat (nq_a (rn_d S n)) := ((hX.2.1.2.2.2 n hn).2.2.2 (by omega)).2.2.1 (Or.inr (by omega))
      refine ⟨_, wm_t hT rfl, pp_b (c := 800) (by omega) (by omega), ?_⟩
      rw [enn, e470 (by omega) I (fun _ _ _ => rfl)]
      refine ⟨_, wm_t hT rfl, pp_b (c := 800) (by omega) (by omega), ?_⟩
      rw [enn, e472]
      refine ⟨nq_l (rn_d S n), i + nq_a (rn_d S n), lk, congrArg (fun z => [Value.ref 460, Value.int (Int32.ofNat (nq_l (rn_d S n))), Value.int z]) (wi_ona i _), hT, by omega, by omega, h49, by omega, fun hlt => ?_, fun hge => ?_⟩
      · refine h _ _ (fb_Z_u (fb_Z_0 (F := fun _ _ => False) hbg (fun _ _ _ z => z)) (by omega) hlt (fun y t ht => ⟨fun z => ?_, fun z => ?_⟩))
        · unfold fb_to at z
          omega
        · rcases z with z | ⟨z1, z2⟩
          · exact z.elim
          · exact Or.inr (Or.inr (Or.inr (Or.inr (Or.inl ⟨by omega, z1, z2⟩))))
      · refine h bg I (fb_Z_0 hbg (fun y t ht z => ?_))
        unfold fb_to at z
        omega
    · rw [ek] at w
      exact ⟨100 - i, i, bg, rfl, rfl, rfl, rfl, rfl, rfl, rfl, rfl, by omega, Nat.le_refl _, by omega, fun u u1 u2 => by omega, fb_Z_0 hbg (fun y t ht z => by omega), rfl⟩
    · rw [ek] at w
      refine h bg I (fb_Z_0 hbg (fun y t ht z => ?_))
      unfold fb_to at z
      omega
    · rw [ek] at w
      have l1 := kL (trL.mpr (by omega))
      have r1 := kR (trR.mpr (by omega))
      refine ⟨_, wm_t hT rfl, pp_b (c := 800) (by omega) (by omega), ?_⟩
      rw [enn, e470 (by omega) I (fun _ _ _ => rfl)]
      refine ⟨nq_l (rn_d S n), i, lk, rfl, hT, by omega, by omega, h49, by omega, fun _ => ?_, fun z => (z hi).elim⟩
      have hz := fb_Z_u (a := nq_l (rn_d S n)) (G := fun y t => y = nq_l (rn_d S n) ∧ t = i) (fb_Z_0 (F := fun _ _ => False) hbg (fun _ _ _ z => z)) (by omega) hi (fun y t ht => ⟨Or.inr, fun z => z.elim False.elim id⟩)
      refine ⟨_, wm_t hT rfl, pp_b (c := 800) (by omega) (by omega), ?_⟩
      rw [enn, e471 (by omega) _ hz.2.2]
      refine ⟨nq_r (rn_d S n), i, lk, rfl, hT, by omega, by omega, (hz.2.2 _ _ (by omega)).trans h49, by omega, fun _ => ?_, fun z => (z hi).elim⟩
      refine h _ _ (fb_Z_u hz (by omega) hi (fun y t ht => ⟨fun z => ?_, fun z => ?_⟩))
      · unfold fb_to at z
        omega
      · refine Or.inr (Or.inr (Or.inr (Or.inr (Or.inr (Or.inr ⟨by omega, ?_, ?_⟩)))))
        · omega
        · omega
    · rw [ek] at w
      refine h bg I (fb_Z_0 hbg (fun y t ht z => ?_))
      unfold fb_to at z
      omega
    · rw [ek] at w
      refine h bg I (fb_Z_0 hbg (fun y t ht z => ?_))
      unfold fb_to at z
      omega
    · rw [ek] at w
      refine h bg I (fb_Z_0 hbg (fun y t ht z => ?_))
      unfold fb_to at z
      omega
    · rw [ek] at w
      refine h bg I (fb_Z_0 hbg (fun y t ht z => ?_))
      unfold fb_to at z
      omega
    · rw [ek] at w
      refine h bg I (fb_Z_0 hbg (fun y t ht z => ?_))
      unfold fb_to at z
      omega
    · rw [ek] at w
      refine h bg I (fb_Z_0 hbg (fun y t ht z => ?_))
      unfold fb_to at z
      omega
    · rw [ek] at w
      refine h bg I (fb_Z_0 hbg (fun y t ht z => ?_))
      unfold fb_to at z
      omega
    · rw [ek] at w
      refine h bg I (fb_Z_0 hbg (fun y t ht z => ?_))
      unfold fb_to at z
      omega
    · rw [ek] at w
      refine h bg I (fb_Z_0 hbg (fun y t ht z => ?_))
      unfold fb_to at z
      omega
    · rw [ek] at w
      refine h bg I (fb_Z_0 hbg (fun y t ht z => ?_))
      unfold fb_to at z
      omega
    · rw [ek] at w
      refine h bg I (fb_Z_0 hbg (fun y t ht z => ?_))
      unfold fb_to at z
      omega
    · rw [ek] at w
      refine h bg I (fb_Z_0 hbg (fun y t ht z => ?_))
      unfold fb_to at z
      omega
    · rw [ek] at w
      refine h bg I (fb_Z_0 hbg (fun y t ht z => ?_))
      unfold fb_to at z
      omega
    · rw [ek] at w
      refine h bg I (fb_Z_0 hbg (fun y t ht z => ?_))
      unfold fb_to at z
      omega
    · rw [ek] at w
      refine h bg I (fb_Z_0 hbg (fun y t ht z => ?_))
      unfold fb_to at z
      omega
    · rw [ek] at w
      obtain ⟨l1, l2⟩ := k31 (by omega)
      have r1 := kR (trR.mpr (by omega))
      refine ⟨_, wm_t hT rfl, pp_b (c := 800) (by omega) (by omega), ?_⟩
      rw [enn, e470 (by omega) I (fun _ _ _ => rfl)]
      refine ⟨S, m0, lk, wd, nq_l (rn_d S n), i, v, rfl, hX, l1, l2, hi, ?_⟩
      refine ⟨fun w2 => ?_, fun w2 => ?_⟩
      · have w2 : rn_h S (nq_l (rn_d S n)) (v i) = false := wb_i_2.mp (fun z => z w2)
        refine h bg I (fb_Z_0 hbg (fun y t ht z => ?_))
        unfold fb_to at z
        rcases z with z | z | z | z | z | z | z
        · omega
        · omega
        · rw [w2] at z
          cases z.2.2.2
        · omega
        · omega
        · omega
        · omega
      · have w2 : rn_h S (nq_l (rn_d S n)) (v i) = true := wb_i_1.mp w2
        refine ⟨_, wm_t hT rfl, pp_b (c := 800) (by omega) (by omega), ?_⟩
        rw [enn, e471 (by omega) I (fun _ _ _ => rfl)]
        refine ⟨nq_r (rn_d S n), i, lk, rfl, hT, by omega, by omega, h49, by omega, fun _ => ?_, fun z => (z hi).elim⟩
        refine h _ _ (fb_Z_u (fb_Z_0 (F := fun _ _ => False) hbg (fun _ _ _ z => z)) (by omega) hi (fun y t ht => ⟨fun z => ?_, fun z => ?_⟩))
        · unfold fb_to at z
          omega
        · rcases z with z | ⟨z1, z2⟩
          · exact z.elim
          · exact Or.inr (Or.inr (Or.inl ⟨by omega, z1, z2, w2⟩))
    · rw [ek] at w
      exact ⟨100 - i, i, bg, none, rfl, rfl, rfl, rfl, rfl, rfl, rfl, rfl, by omega, Nat.le_refl _, by omega, fb_Z_0 hbg (fun y t ht z => by omega), rfl⟩
    · rw [ek] at w
      exact ⟨100 - i, i, bg, none, rfl, rfl, rfl, rfl, rfl, rfl, rfl, rfl, by omega, Nat.le_refl _, by omega, fb_Z_0 hbg (fun y t ht z => by omega), rfl⟩
    · rw [ek] at n10 n11 n12 n13 n14 n15 n16 n17 n18 n19 n20 n21 n22 n23 n24 n25 n26 n27 n28 n29 n30 n31 n32 n33
      refine h bg I (fb_Z_0 hbg (fun y t ht z => ?_))
      unfold fb_to at z
      omega
  · intro pc P hP m lv st T1 N1 I1 L1 R1 nc ns hh
    have hT := hX.1
    have hlk := hX.2.2.2.1
    have h49 := hX.2.2.1
    have hn5 := hX.2.1.2.1
    have enn := wi_onn (n := n) (by omega)
    have hk100 : rn_k S n < 100 := by unfold fl_prop at hfl; omega
    have ek := wi_on (n := rn_k S n) (by omega)
    have e469 : I 469 n = Int32.ofNat (rn_k S n) := (hX.2.1.2.2.2 n hn).1
    have e470 : ¬ rn_k S n = 60 → ∀ I2 : Nat → Nat → Int32, (∀ c j, ¬ c = 526 → I2 c j = I c j) → I2 470 n = Int32.ofNat (nq_l (rn_d S n)) := fun z I2 g => (g _ _ (by omega)).trans (mr_nd (hX.2.1.2.2.2 n hn) z).2.1
    have e471 : ¬ rn_k S n = 60 → ∀ I2 : Nat → Nat → Int32, (∀ c j, ¬ c = 526 → I2 c j = I c j) → I2 471 n = Int32.ofNat (nq_r (rn_d S n)) := fun z I2 g => (g _ _ (by omega)).trans (mr_nd (hX.2.1.2.2.2 n hn) z).2.2
    have el := wi_on (n := lk) (by omega)
    have ei := wi_on (n := i) (by omega)
    obtain ⟨kL, kR, k31, k13, k32, k12⟩ := hkid
    have trL : tr_L (rn_k S n) ↔ rn_k S n = 10 ∨ rn_k S n = 12 ∨ rn_k S n = 13 ∨ rn_k S n = 15 := Iff.rfl
    have trR : tr_R (rn_k S n) ↔ (31 ≤ rn_k S n ∧ rn_k S n ≤ 33) ∨ rn_k S n = 15 := Iff.rfl

    have e32 : ((Int8.ofInt 32).toInt32).toInt = 32 := rfl
    unfold fb_h445 at hP
    by_cases p118 : pc = 118
    · rw [if_pos p118] at hP
      cases hP
      subst p118
      obtain ⟨j, bg1, x4, rfl, rfl, rfl, rfl, rfl, rfl, rfl, rfl, hk, hj1, hj2, hZ, rfl⟩ := hh
      have ej := wi_on (n := j) (by omega)
      have l1 := k32 hk
      have r1 := kR (trR.mpr (by omega))
      refine ⟨fun w => ?_, fun w => ?_⟩
      · rw [hZ.2.2 460 49 (by omega), h49, wi_lt, el, ej] at w
        refine h _ _ (fb_Z_n hZ (fun y t ht => ⟨fun z => ?_, fun z => ?_⟩))
        · unfold fb_to at z
          rcases z with ⟨z1, z2, z3, z4, z5⟩ | ⟨z1, z2, z3, z4, z5⟩ | z | z | z | z | z
          · exact ⟨z2, z3, Or.inl ⟨z1, by omega, z5⟩⟩
          · exact ⟨z2, z3, Or.inr ⟨z1, by omega, z5⟩⟩
          · omega
          · omega
          · omega
          · omega
          · omega
        · obtain ⟨z1, z2, ⟨z3, z4, z5⟩ | ⟨z3, z4, z5⟩⟩ := z
          · exact Or.inl ⟨z3, z1, z2, ht, z5⟩
          · exact Or.inr (Or.inl ⟨z3, z1, z2, ht, z5⟩)
      rw [hZ.2.2 460 49 (by omega), h49, wi_lt, el, ej] at w
      have lst : ∀ x4 : Option Value, fb_l45 n i (some (.int (Int32.ofNat (j + 1)))) x4 = fb_l45 n i (some (.int (Int32.ofNat j + Int32.ofInt 1))) x4 := fun x4 => by
        rw [wq_4s]
      refine ⟨_, wm_t hT rfl, pp_b (c := 800) (by omega) (by omega), ?_⟩
      rw [enn, hZ.2.2 469 n (by omega), e469]
      refine ⟨fun w1 => ?_, fun w1 => ?_⟩
      · rw [wi_eq, ek, e32] at w1
        have k33 : rn_k S n = 33 := by omega
        refine ⟨_, wm_t hT rfl, pp_b (c := 800) (by omega) (by omega), ?_⟩
        rw [enn, e470 (by omega) _ hZ.2.2]
        refine ⟨nq_l (rn_d S n), i, j, rfl, hT, by omega, by omega, by omega, ?_⟩
        refine ⟨fun w2 => ?_, fun w2 => ?_⟩
        · have w2 : fb_e L1 (nq_l (rn_d S n)) i j = false := wb_i_2.mp (fun z => z w2)
          refine ⟨100 - (j + 1), by omega, j + 1, bg1, _, (lst _).symm, rfl, rfl, rfl, rfl, rfl, rfl, rfl, hk, by omega, by omega, fb_Z_n hZ (fun y t ht => ⟨fun ⟨z1, z2, z⟩ => ⟨z1, z2, ?_⟩, fun ⟨z1, z2, z⟩ => ⟨z1, z2, ?_⟩⟩), rfl⟩
          · rcases z with ⟨z3, z4, z5⟩ | ⟨z3, z4, z5⟩
            · omega
            · by_cases e : t = j
              · subst e
                rw [w2] at z5
                cases z5
              · exact Or.inr ⟨z3, by omega, z5⟩
          · rcases z with ⟨z3, z4, z5⟩ | ⟨z3, z4, z5⟩
            · omega
            · exact Or.inr ⟨z3, by omega, z5⟩
        have w2 : fb_e L1 (nq_l (rn_d S n)) i j = true := wb_i_1.mp w2
        have st1 : j < lk → fb_Z S lk bg (fb_u bg1 (nq_r (rn_d S n)) j) (fun y t => y = nq_r (rn_d S n) ∧ i ≤ t ∧ ((rn_k S n = 32 ∧ t + 1 < j + 1 ∧ fb_e L1 (nq_l (rn_d S n)) i (t + 1) = true) ∨ (rn_k S n = 33 ∧ t < j + 1 ∧ fb_e L1 (nq_l (rn_d S n)) i t = true))) I (wv_u I1 526 (26 * nq_r (rn_d S n) + j) 1) := fun hjl => fb_Z_u hZ (by omega) hjl (fun y t ht => ⟨fun ⟨z1, z2, z⟩ => by
          rcases z with ⟨z3, z4, z5⟩ | ⟨z3, z4, z5⟩
          · omega
          · by_cases e : t = j
            · exact Or.inr ⟨z1, e⟩
            · exact Or.inl ⟨z1, z2, Or.inr ⟨z3, by omega, z5⟩⟩, fun z => by
          rcases z with ⟨z1, z2, ⟨z3, z4, z5⟩ | ⟨z3, z4, z5⟩⟩ | ⟨z1, z2⟩
          · omega
          · exact ⟨z1, z2, Or.inr ⟨z3, by omega, z5⟩⟩
          · rw [z2]
            exact ⟨z1, hj1, Or.inr ⟨k33, by omega, w2⟩⟩⟩)
        have st2 : ¬ j < lk → fb_Z S lk bg bg1 (fun y t => y = nq_r (rn_d S n) ∧ i ≤ t ∧ ((rn_k S n = 32 ∧ t + 1 < j + 1 ∧ fb_e L1 (nq_l (rn_d S n)) i (t + 1) = true) ∨ (rn_k S n = 33 ∧ t < j + 1 ∧ fb_e L1 (nq_l (rn_d S n)) i t = true))) I I1 := fun hjl => fb_Z_n hZ (fun y t ht => ⟨fun ⟨z1, z2, z⟩ => ⟨z1, z2, by
          rcases z with ⟨z3, z4, z5⟩ | ⟨z3, z4, z5⟩
          · omega
          · exact Or.inr ⟨z3, by omega, z5⟩⟩, fun ⟨z1, z2, z⟩ => ⟨z1, z2, by
          rcases z with ⟨z3, z4, z5⟩ | ⟨z3, z4, z5⟩
          · omega
          · exact Or.inr ⟨z3, by omega, z5⟩⟩⟩)
        refine ⟨fun w3 => ?_, fun w3 => ?_⟩
        · refine ⟨_, wm_t hT rfl, pp_b (c := 800) (by omega) (by omega), ?_⟩
          rw [enn, e471 (by omega) _ hZ.2.2]
          refine ⟨fun _ => ?_, fun y => absurd rfl y⟩
          refine ⟨nq_r (rn_d S n), j, lk, rfl, hT, by omega, by omega, (hZ.2.2 _ _ (by omega)).trans h49, by omega, fun hjl => ?_, fun hjl => ?_⟩
          · exact ⟨100 - (j + 1), by omega, j + 1, _, _, (lst _).symm, rfl, rfl, rfl, rfl, rfl, rfl, rfl, hk, by omega, by omega, st1 hjl, rfl⟩
          · exact ⟨100 - (j + 1), by omega, j + 1, _, _, (lst _).symm, rfl, rfl, rfl, rfl, rfl, rfl, rfl, hk, by omega, by omega, st2 hjl, rfl⟩
        · refine ⟨fun y => absurd rfl y, fun _ => ?_⟩
          refine ⟨_, wm_t hT rfl, pp_b (c := 800) (by omega) (by omega), ?_⟩
          rw [enn, e471 (by omega) _ hZ.2.2]
          refine ⟨fun _ => ?_, fun y => absurd rfl y⟩
          refine ⟨nq_r (rn_d S n), j, lk, rfl, hT, by omega, by omega, (hZ.2.2 _ _ (by omega)).trans h49, by omega, fun hjl => ?_, fun hjl => ?_⟩
          · exact ⟨100 - (j + 1), by omega, j + 1, _, _, (lst _).symm, rfl, rfl, rfl, rfl, rfl, rfl, rfl, hk, by omega, by omega, st1 hjl, rfl⟩
          · exact ⟨100 - (j + 1), by omega, j + 1, _, _, (lst _).symm, rfl, rfl, rfl, rfl, rfl, rfl, rfl, hk, by omega, by omega, st2 hjl, rfl⟩
      · rw [wi_eq, ek, e32] at w1
        have k32b : rn_k S n = 32 := by omega
        refine ⟨_, wm_t hT rfl, pp_b (c := 800) (by omega) (by omega), ?_⟩
        rw [enn, e470 (by omega) _ hZ.2.2]
        refine ⟨nq_l (rn_d S n), i, j, rfl, hT, by omega, by omega, by omega, ?_⟩
        have skip : (fb_e L1 (nq_l (rn_d S n)) i j = false ∨ j = i) → fb_Z S lk bg bg1 (fun y t => y = nq_r (rn_d S n) ∧ i ≤ t ∧ ((rn_k S n = 32 ∧ t + 1 < j + 1 ∧ fb_e L1 (nq_l (rn_d S n)) i (t + 1) = true) ∨ (rn_k S n = 33 ∧ t < j + 1 ∧ fb_e L1 (nq_l (rn_d S n)) i t = true))) I I1 := fun hz => fb_Z_n hZ (fun y t ht => ⟨fun ⟨z1, z2, z⟩ => ⟨z1, z2, by
          rcases z with ⟨z3, z4, z5⟩ | ⟨z3, z4, z5⟩
          · by_cases e : t + 1 = j
            · rw [e] at z5
              rcases hz with hz | hz
              · rw [hz] at z5
                cases z5
              · omega
            · exact Or.inl ⟨z3, by omega, z5⟩
          · omega⟩, fun ⟨z1, z2, z⟩ => ⟨z1, z2, by
          rcases z with ⟨z3, z4, z5⟩ | ⟨z3, z4, z5⟩
          · exact Or.inl ⟨z3, by omega, z5⟩
          · omega⟩⟩)
        refine ⟨fun w2 => ?_, fun w2 => ?_⟩
        · have w2 : fb_e L1 (nq_l (rn_d S n)) i j = false := wb_i_2.mp (fun z => z w2)
          exact ⟨100 - (j + 1), by omega, j + 1, bg1, _, (lst _).symm, rfl, rfl, rfl, rfl, rfl, rfl, rfl, hk, by omega, by omega, skip (Or.inl w2), rfl⟩
        have w2 : fb_e L1 (nq_l (rn_d S n)) i j = true := wb_i_1.mp w2
        refine ⟨fun w3 => ?_, fun w3 => ?_⟩
        · rw [wi_lt, ej, ei] at w3
          refine ⟨_, wm_t hT rfl, pp_b (c := 800) (by omega) (by omega), ?_⟩
          rw [enn, e471 (by omega) _ hZ.2.2]
          refine ⟨fun y => absurd y (by decide), fun _ => ?_⟩
          refine ⟨nq_r (rn_d S n), j - 1, lk, congrArg (fun z => [Value.ref 460, Value.int (Int32.ofNat (nq_r (rn_d S n))), Value.int z]) (mr_sub (b := 1) (a := j) (by omega) (by omega)), hT, by omega, by omega, (hZ.2.2 _ _ (by omega)).trans h49, by omega, fun hjl => ?_, fun hjl => by omega⟩
          refine ⟨100 - (j + 1), by omega, j + 1, fb_u bg1 (nq_r (rn_d S n)) (j - 1), _, (lst _).symm, rfl, rfl, rfl, rfl, rfl, rfl, rfl, hk, by omega, by omega, fb_Z_u hZ (by omega) hjl (fun y t ht => ⟨fun ⟨z1, z2, z⟩ => ?_, fun z => ?_⟩), rfl⟩
          · rcases z with ⟨z3, z4, z5⟩ | ⟨z3, z4, z5⟩
            · by_cases e : t + 1 = j
              · exact Or.inr ⟨z1, by omega⟩
              · exact Or.inl ⟨z1, z2, Or.inl ⟨z3, by omega, z5⟩⟩
            · omega
          · rcases z with ⟨z1, z2, ⟨z3, z4, z5⟩ | ⟨z3, z4, z5⟩⟩ | ⟨z1, z2⟩
            · exact ⟨z1, z2, Or.inl ⟨z3, by omega, z5⟩⟩
            · omega
            · refine ⟨z1, by omega, Or.inl ⟨k32b, by omega, ?_⟩⟩
              rw [z2, show j - 1 + 1 = j by omega]
              exact w2
        · rw [wi_lt, ej, ei] at w3
          refine ⟨fun _ => ?_, fun y => absurd y (by decide)⟩
          exact ⟨100 - (j + 1), by omega, j + 1, bg1, _, (lst _).symm, rfl, rfl, rfl, rfl, rfl, rfl, rfl, hk, by omega, by omega, skip (Or.inr (by omega)), rfl⟩
    rw [if_neg p118] at hP
    by_cases p230 : pc = 230
    · rw [if_pos p230] at hP
      cases hP
      subst p230
      obtain ⟨j, bg1, rfl, rfl, rfl, rfl, rfl, rfl, rfl, rfl, hk, hj1, hj2, hZ, rfl⟩ := hh
      have ej := wi_on (n := j) (by omega)
      have l1 := kL (trL.mpr (by omega))
      refine ⟨fun w => ?_, fun w => ?_⟩
      · rw [hZ.2.2 460 49 (by omega), h49, wi_le, el, ej] at w
        refine h _ _ (fb_Z_n hZ (fun y t ht => ⟨fun z => ?_, fun z => ?_⟩))
        · unfold fb_to at z
          omega
        · exact Or.inr (Or.inr (Or.inr (Or.inl ⟨hk, z.1, z.2.1, ht⟩)))
      · rw [hZ.2.2 460 49 (by omega), h49, wi_le, el, ej] at w
        refine ⟨_, wm_t hT rfl, pp_b (c := 800) (by omega) (by omega), ?_⟩
        rw [enn, e470 (by omega) _ hZ.2.2]
        refine ⟨nq_l (rn_d S n), j, lk, rfl, hT, by omega, by omega, (hZ.2.2 _ _ (by omega)).trans h49, by omega, fun hjl => ?_, fun hjl => by omega⟩
        refine ⟨100 - (j + 1), by omega, j + 1, fb_u bg1 (nq_l (rn_d S n)) j, ?_, rfl, rfl, rfl, rfl, rfl, rfl, rfl, hk, by omega, by omega, fb_Z_u hZ (by omega) hjl (fun y t ht => by omega), rfl⟩
        unfold fb_l45
        rw [← wq_4s j]
        rfl
    rw [if_neg p230] at hP
    by_cases p281 : pc = 281
    · rw [if_pos p281] at hP
      cases hP
      subst p281
      obtain ⟨j, bg1, rfl, rfl, rfl, rfl, rfl, rfl, rfl, rfl, hk, hj1, hj2, hno, hZ, rfl⟩ := hh
      have ej := wi_on (n := j) (by omega)
      have l1 := kL (trL.mpr (by omega))
      obtain ⟨r1, r2⟩ := k13 hk
      have fin : (j = lk ∨ (j < lk ∧ rn_h S (nq_r (rn_d S n)) (v j) = true)) → fb_Z S lk bg bg1 (fb_to S lk v (fb_e L1) n i) I I1 := fun hz => fb_Z_n hZ (fun y t ht => ⟨fun z => by
        unfold fb_to at z
        rcases z with z | z | z | z | z | ⟨z1, z2, z3, z4, z5⟩ | z
        · omega
        · omega
        · omega
        · omega
        · omega
        · refine ⟨z2, z3, ?_⟩
          rcases hz with hz | ⟨hz1, hz2⟩
          · omega
          · rcases Nat.lt_or_ge t j with y | y
            · exact y
            · have := z5 j hj1 y
              rw [hz2] at this
              cases this
        · omega, fun z => Or.inr (Or.inr (Or.inr (Or.inr (Or.inr (Or.inl ⟨hk, z.1, z.2.1, ht, fun u u1 u2 => hno u u1 (by omega)⟩)))))⟩)
      refine ⟨fun w => ?_, fun w => ?_⟩
      · rw [hZ.2.2 460 49 (by omega), h49, wi_le, el, ej] at w
        exact h _ _ (fin (Or.inl (by omega)))
      · rw [hZ.2.2 460 49 (by omega), h49, wi_le, el, ej] at w
        refine ⟨_, wm_t hT rfl, pp_b (c := 800) (by omega) (by omega), ?_⟩
        rw [enn, e471 (by omega) _ hZ.2.2]
        refine ⟨S, m0, lk, wd, nq_r (rn_d S n), j, v, rfl, fb_X hX hZ.2.2, r1, r2, by omega, ?_⟩
        refine ⟨fun w2 => ?_, fun w2 => ?_⟩
        · exact h _ _ (fin (Or.inr ⟨by omega, wb_i_1.mp w2⟩))
        · have w2 : rn_h S (nq_r (rn_d S n)) (v j) = false := wb_i_2.mp w2
          refine ⟨_, wm_t hT rfl, pp_b (c := 800) (by omega) (by omega), ?_⟩
          rw [enn, e470 (by omega) _ hZ.2.2]
          refine ⟨nq_l (rn_d S n), j, lk, rfl, hT, by omega, by omega, (hZ.2.2 _ _ (by omega)).trans h49, by omega, fun hjl => ?_, fun hjl => by omega⟩
          refine ⟨100 - (j + 1), by omega, j + 1, fb_u bg1 (nq_l (rn_d S n)) j, ?_, rfl, rfl, rfl, rfl, rfl, rfl, rfl, hk, by omega, by omega, fun u u1 u2 => ?_, fb_Z_u hZ (by omega) hjl (fun y t ht => by omega), rfl⟩
          · unfold fb_l45
            rw [← wq_4s j]
            rfl
          · by_cases e : u = j
            · subst e
              exact w2
            · exact hno u u1 (by omega)
    rw [if_neg p281] at hP
    cases hP
