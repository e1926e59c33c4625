/-! ===== a design of numbers: the whole text ===== -/
section NMH
variable (ts : List wt_t) (n : Nat)
def nmh0 : wt_q := tk_take ts n (Int8.ofInt 39).toInt32 (0, none)
def nmh1 : Int32 × wt_q := nm_rd ts n (Int32.ofInt 1) (Int8.ofInt 68).toInt32 (nmh0 ts n)
def nmh2 : Int32 × wt_q := nm_rd ts n (Int32.ofInt 1) (Int32.ofInt 3) (nmh1 ts n).2
def nmh3 : Int32 × wt_q := nm_rd ts n (Int32.ofInt 0) (Int32.ofInt 5) (nmh2 ts n).2
def nmh4 : Int32 × wt_q := nm_rd ts n (Int8.ofInt 6).toInt32 (Int8.ofInt 6).toInt32 (nmh3 ts n).2
def nmhg : Int32 := (nmh1 ts n).1 - (nmh2 ts n).1 - (nmh3 ts n).1
def nmh5 : wt_q := if nmhg ts n < 0 ∨ (Int8.ofInt 60).toInt32 < nmhg ts n then tk_ref ts n (nmh4 ts n).2 else (nmh4 ts n).2
def nmh6 : Int32 × wt_q := nm_rd ts n (nmhg ts n) (nmhg ts n) (nmh5 ts n)
def nmHA : Nat := (nmh2 ts n).1.toNatClampNeg
def nmHB : Nat := (nmh3 ts n).1.toNatClampNeg
def nmHG : Nat := (nmhg ts n).toNatClampNeg
def nmHE : wt_q := nmE ts n (nmHA ts n) (nmHB ts n) (nmHG ts n) (nmh6 ts n).2
def nmFault : Option Nat := if (nmh6 ts n).2.2.isSome = true then (nmh6 ts n).2.2 else (nmHE ts n).2
end NMH
theorem tk_take_none {ts : List wt_t} {n : Nat} {k : Int32} {s : wt_q} (h : (tk_take ts n k s).2 = none) : s.2 = none ∧ tk_now ts s = k ∧ tk_take ts n k s = tk_adv ts s := by
  unfold tk_take at h ⊢
  by_cases hk : tk_now ts s = k
  · rw [if_pos hk] at h ⊢
    refine ⟨?_, hk, rfl⟩
    unfold tk_adv at h
    split at h
    · assumption
    · exact h
  · rw [if_neg hk] at h
    unfold tk_ref tk_refAt at h
    split at h
    · cases h
    · rename_i z hz
      rw [hz] at h
      cases h
/-- a number that was read without a fault -/
theorem nm_rd_none {ts : List wt_t} {n : Nat} {lo hi : Int32} {s : wt_q} (h : (nm_rd ts n lo hi s).2.2 = none) : s.2 = none ∧ ¬ (tk_low ts s.1 < lo ∨ hi < tk_low ts s.1) ∧ (nm_rd ts n lo hi s).1 = tk_low ts s.1 ∧ tk_now ts s = (Int8.ofInt 40).toInt32 ∧ (nm_rd ts n lo hi s).2 = tk_adv ts s := by
  unfold nm_rd at h ⊢
  obtain ⟨h1, h2, h3⟩ := tk_take_none h
  by_cases hb : tk_low ts s.1 < lo ∨ hi < tk_low ts s.1
  · rw [if_pos hb] at h1
    unfold tk_ref tk_refAt at h1
    split at h1
    · cases h1
    · rename_i z hz
      rw [hz] at h1
      cases h1
  · rw [if_neg hb] at h h1 h2 h3 ⊢
    refine ⟨h1, hb, ?_, h2, h3⟩
    show (if (tk_take ts n (Int8.ofInt 40).toInt32 s).2.isSome = true then lo else tk_low ts s.1) = _
    rw [h]
    rfl
theorem nm_rd_in {ts : List wt_t} {n : Nat} {lo hi : Int32} {s : wt_q} (h : (nm_rd ts n lo hi s).2.2 = none) : lo.toInt ≤ (nm_rd ts n lo hi s).1.toInt ∧ (nm_rd ts n lo hi s).1.toInt ≤ hi.toInt := by
  obtain ⟨_, h2, h3, _, _⟩ := nm_rd_none h
  rw [h3]
  have x1 : ¬ tk_low ts s.1 < lo := fun z => h2 (Or.inl z)
  have x2 : ¬ hi < tk_low ts s.1 := fun z => h2 (Or.inr z)
  rw [wi_lt] at x1 x2
  omega
/-- the header, read without a fault -/
theorem nmh_none {ts : List wt_t} {n : Nat} (h : (nmh6 ts n).2.2 = none) : (nmh0 ts n).2 = none ∧ (nmh1 ts n).2.2 = none ∧ (nmh2 ts n).2.2 = none ∧ (nmh3 ts n).2.2 = none ∧ (nmh4 ts n).2.2 = none ∧ ¬ (nmhg ts n < 0 ∨ (Int8.ofInt 60).toInt32 < nmhg ts n) ∧ nmh5 ts n = (nmh4 ts n).2 := by
  have h5 := (nm_rd_none h).1
  by_cases hb : nmhg ts n < 0 ∨ (Int8.ofInt 60).toInt32 < nmhg ts n
  · exfalso
    unfold nmh5 at h5
    rw [if_pos hb] at h5
    unfold tk_ref tk_refAt at h5
    split at h5
    · cases h5
    · rename_i z hz
      rw [hz] at h5
      cases h5
  · have e5 : nmh5 ts n = (nmh4 ts n).2 := if_neg hb
    rw [e5] at h5
    have h4 := (nm_rd_none h5).1
    have h3 := (nm_rd_none h4).1
    have h2 := (nm_rd_none h3).1
    have h1 := (nm_rd_none h2).1
    exact ⟨h1, h2, h3, h4, h5, hb, e5⟩
theorem nmh_b {ts : List wt_t} {n : Nat} (h : (nmh6 ts n).2.2 = none) : 1 ≤ nmHA ts n ∧ nmHA ts n ≤ 3 ∧ nmHB ts n ≤ 5 ∧ nmHG ts n ≤ 60 ∧ (nmh2 ts n).1 = Int32.ofNat (nmHA ts n) ∧ (nmh3 ts n).1 = Int32.ofNat (nmHB ts n) ∧ nmhg ts n = Int32.ofNat (nmHG ts n) := by
  obtain ⟨h0, h1, h2, h3, h4, h5, h6⟩ := nmh_none h
  have b2 := nm_rd_in h2
  have b3 := nm_rd_in h3
  have e1 : (Int32.ofInt 1).toInt = 1 := rfl
  have e3 : (Int32.ofInt 3).toInt = 3 := rfl
  have e0 : (Int32.ofInt 0).toInt = 0 := rfl
  have e5 : (Int32.ofInt 5).toInt = 5 := rfl
  have e60 : ((Int8.ofInt 60).toInt32).toInt = 60 := rfl
  have x1 : ¬ nmhg ts n < 0 := fun z => h5 (Or.inl z)
  have x2 : ¬ (Int8.ofInt 60).toInt32 < nmhg ts n := fun z => h5 (Or.inr z)
  rw [wi_lt, wi_0] at x1
  rw [wi_lt, e60] at x2
  have c2 : 1 ≤ (nmh2 ts n).1.toInt ∧ (nmh2 ts n).1.toInt ≤ 3 := b2
  have c3 : 0 ≤ (nmh3 ts n).1.toInt ∧ (nmh3 ts n).1.toInt ≤ 5 := b3
  have of : ∀ x : Int32, 0 ≤ x.toInt → x.toInt < 1000 → x = Int32.ofNat x.toNatClampNeg := fun x y1 y2 => wi_eq.mpr (by
    rw [wi_on (by rw [wi_nat]; omega), wi_nat]
    omega)
  unfold nmHA nmHB nmHG
  refine ⟨by rw [wi_nat]; omega, by rw [wi_nat]; omega, by rw [wi_nat]; omega, by rw [wi_nat]; omega, of _ (by omega) (by omega), of _ (by omega) (by omega), of _ (by omega) (by omega)⟩
/-- what reading numbers leaves alone -/
def wd_G (C : Nat) (I : Nat → Nat → Int32) (L : Nat → Nat → Int64) (I1 : Nat → Nat → Int32) (L1 : Nat → Nat → Int64) : Prop := (∀ c j, ¬ (c = 1 ∧ (j = 7 ∨ j = 8 ∨ j = 9)) → ¬ (3 ≤ c ∧ c ≤ 6) → ¬ (C ≤ c ∧ c ≤ C + 5) → I1 c j = I c j) ∧ ∀ c j, ¬ c = 7 → L1 c j = L c j
theorem wd_G_A {C : Nat} {I J : Nat → Nat → Int32} {L M : Nat → Nat → Int64} (h : wt_A I L J M) : wd_G C I L J M := ⟨fun c j a b _ => h.1 c j a b, h.2⟩
theorem wd_G_F {C : Nat} {I J K : Nat → Nat → Int32} {L M : Nat → Nat → Int64} (h : wd_G C I L J M) (h2 : wd_F C J K) : wd_G C I L K M := ⟨fun c j a b d => by rw [h2 c j (by omega) d, h.1 c j a b d], h.2⟩
theorem wd_new_F {C : Nat} {a b : Int32} {I : Nat → Nat → Int32} : ∀ c j, ¬ (C ≤ c ∧ c ≤ C + 5) → wd_new C a b I c j = I c j := fun c j h => wd_new_no (by omega) (by omega) (by omega) (by omega)
theorem wd_l_8 {C k : Nat} {I : Nat → Nat → Int32} : ∀ j, wd_l C I j C k = I C k := fun j => wd_l_no (by omega) (by omega) j
theorem wd_new_8 {C : Nat} {a b : Int32} {I : Nat → Nat → Int32} : wd_new C a b I C 8 = a ∧ wd_new C a b I C 9 = b ∧ wd_new C a b I C 10 = Int32.ofInt 0 := by
  unfold wd_new
  refine ⟨?_, ?_, ?_⟩
  · rw [wv_u_no _ _ (by omega), wg_f_no (by omega), wd_l_8]
    unfold wd_0
    rw [wv_u_no _ _ (by omega), wv_u_no _ _ (by omega), wv_u_at]
  · rw [wv_u_no _ _ (by omega), wg_f_no (by omega), wd_l_8]
    unfold wd_0
    rw [wv_u_no _ _ (by omega), wv_u_at]
  · rw [wv_u_no _ _ (by omega), wg_f_no (by omega), wd_l_8]
    unfold wd_0
    rw [wv_u_at]
def nmTs (I : Nat → Nat → Int32) (n : Nat) : List wt_t := wt_lex (nm_st (wt_c I) n) n 400 0
/-- what a text of numbers gives: the fault, or a design at C -/
def nmOut (I : Nat → Nat → Int32) (n C : Nat) (I1 : Nat → Nat → Int32) : Prop := nmFault (nmTs I n) n = none → nmV (nmTs I n) n (nmHA (nmTs I n) n) (nmHB (nmTs I n) n) (nmHG (nmTs I n) n) (nmh6 (nmTs I n) n).2 I1 C (nmHG (nmTs I n) n) (nmHB (nmTs I n) n) (nmHB (nmTs I n) n) 6
def wt_h82 (C : Nat) (ts : List wt_t) (n : Nat) (r1 r2 r3 : Int32 × wt_q) (s5 : wt_q) (T : wv_T) (N : Nat) (I : Nat → Nat → Int32) (L : Nat → Nat → Int64) (R : Nat → Nat → Option Nat) : Nat → Option (Nat → wv_P) := fun pc =>
  if pc = 72 then some (fun _ lv st T1 N1 I7 L1 R1 nc ns => ∃ I1, lv = [some (.ref 26), some (.ref C), some (.int r1.1), some (.int r2.1), some (.int r3.1), some (.int (r1.1 - r2.1 - r3.1)), none, none] ∧ st = [] ∧ T1 = T ∧ N1 = N ∧ R1 = R ∧ nc = 0 ∧ ns = 0 ∧ wt_A I L I1 L1 ∧ wt_Q I1 L1 ts n s5 I7)
  else none
def wt_c82 : wv_c1 := fun as T N I L R q => ∃ n C : Nat, as = [.ref 26, .ref C] ∧ wm_T T ∧ wt_S T I R ∧ wd_D T R C ∧ 7 < C ∧ C < 1099511000000 ∧ I 1 6 = Int32.ofNat n ∧ n ≤ 400 ∧ ∀ I1 L1, (∀ z, nmFault (nmTs I n) n = some z → z ≤ 400) → nmOut I n C I1 → wd_G C I L I1 L1 → q (.inl (some (.int (wt_f (nmFault (nmTs I n) n))))) T N I1 L1 R 0 0
set_option maxRecDepth 100000 in
theorem wM_82 : ∃ cb ci np, pt_mt 82 = some (7, cb, 6, false, some .int, ci, np) := ⟨_, _, _, rfl⟩
set_option maxRecDepth 100000 in
set_option maxHeartbeats 1000000 in
theorem wt_readNums {sc : pt_Sc} {d : Nat} (hf : wt_fv sc) : wv_C wm_fx sc (d + 1 + 1 + 1 + 1 + 1 + 1 + 1) 82 wt_c82 := by
  rintro as T N I L R q ⟨n, C, rfl, hT, hS, hD, hC7, hC0, h6, hn, h⟩ w0 HR
  obtain ⟨cb, ci, np, hm⟩ := wM_82
  unfold nmOut nmTs at h
  obtain ⟨ts, hts⟩ : ∃ ts, wt_lex (nm_st (wt_c I) n) n 400 0 = ts := ⟨_, rfl⟩
  rw [hts] at h
  obtain ⟨s0, hs0⟩ : ∃ s, tk_take ts n (Int8.ofInt 39).toInt32 (0, none) = s := ⟨_, rfl⟩
  obtain ⟨r1, hr1⟩ : ∃ r, nm_rd ts n (Int32.ofInt 1) (Int8.ofInt 68).toInt32 s0 = r := ⟨_, rfl⟩
  obtain ⟨r2, hr2⟩ : ∃ r, nm_rd ts n (Int32.ofInt 1) (Int32.ofInt 3) r1.2 = r := ⟨_, rfl⟩
  obtain ⟨r3, hr3⟩ : ∃ r, nm_rd ts n (Int32.ofInt 0) (Int32.ofInt 5) r2.2 = r := ⟨_, rfl⟩
  obtain ⟨r4, hr4⟩ : ∃ r, nm_rd ts n (Int8.ofInt 6).toInt32 (Int8.ofInt 6).toInt32 r3.2 = r := ⟨_, rfl⟩
  obtain ⟨s5, hs5⟩ : ∃ s, (if r1.1 - r2.1 - r3.1 < 0 ∨ (Int8.ofInt 60).toInt32 < r1.1 - r2.1 - r3.1 then tk_ref ts n r4.2 else r4.2) = s := ⟨_, rfl⟩
  obtain ⟨r6, hr6⟩ : ∃ r, nm_rd ts n (r1.1 - r2.1 - r3.1) (r1.1 - r2.1 - r3.1) s5 = r := ⟨_, rfl⟩
  have q0 : nmh0 ts n = s0 := hs0
  have q1 : nmh1 ts n = r1 := by unfold nmh1; rw [q0]; exact hr1
  have q2 : nmh2 ts n = r2 := by unfold nmh2; rw [q1]; exact hr2
  have q3 : nmh3 ts n = r3 := by unfold nmh3; rw [q2]; exact hr3
  have q4 : nmh4 ts n = r4 := by unfold nmh4; rw [q3]; exact hr4
  have qg : nmhg ts n = r1.1 - r2.1 - r3.1 := by unfold nmhg; rw [q1, q2, q3]
  have q5 : nmh5 ts n = s5 := by unfold nmh5; rw [qg, q4]; exact hs5
  have q6 : nmh6 ts n = r6 := by unfold nmh6; rw [qg, q5]; exact hr6
  have main : ∀ I1 L1, wt_A I L I1 L1 → ∀ I7, wt_Q I1 L1 ts n s5 I7 → wt_K I7 L1 ts n s5.1 s5.2 ∧ ∀ I8, wt_Q I7 L1 ts n r6.2 I8 → wt_K I8 L1 ts n r6.2.1 r6.2.2 ∧ (¬ wp_b r6.2.2.isSome = 0 → q (.inl (some (.int (wt_f r6.2.2)))) T N I8 L1 R 0 0) ∧ (wp_b r6.2.2.isSome = 0 → 0 ≤ r3.1.toInt ∧ r3.1.toInt ≤ 5 ∧ ∃ A B G : Nat, r2.1 = Int32.ofNat A ∧ r3.1 = Int32.ofNat B ∧ r1.1 - r2.1 - r3.1 = Int32.ofNat G ∧ A ≤ 3 ∧ B ≤ 5 ∧ G ≤ 60 ∧ wt_K (wd_new C r2.1 r3.1 I8) L1 ts n r6.2.1 r6.2.2 ∧ wd_new C r2.1 r3.1 I8 C 8 = Int32.ofNat A ∧ wd_new C r2.1 r3.1 I8 C 9 = Int32.ofNat B ∧ (wd_new C r2.1 r3.1 I8 C 10 = Int32.ofInt 0 ∧ wd_new C r2.1 r3.1 I8 C 7 = 0) ∧ ∀ I9, wt_K I9 L1 ts n (nmE ts n A B G r6.2).1 (nmE ts n A B G r6.2).2 → nmV ts n A B G r6.2 I9 C G B B 6 → wd_F C (wd_new C r2.1 r3.1 I8) I9 → q (.inl (some (.int (wt_f (nmE ts n A B G r6.2).2)))) T N I9 L1 R 0 0) := by
    intro I1 L1 hA I7 g7
    refine ⟨g7.1, fun I8 g8 => ⟨g8.1, fun hz => ?_, fun hz => ?_⟩⟩
    · have hsome : r6.2.2.isSome = true := by
        cases hx : r6.2.2.isSome with
        | true => rfl
        | false => rw [hx] at hz; exact (hz rfl).elim
      have hf : nmFault ts n = r6.2.2 := by unfold nmFault; rw [q6]; exact if_pos hsome
      have h2 := h I8 L1 (by rw [hf]; exact g8.1.2.2.2.2.2.2.2.1) (fun z => by rw [hf] at z; rw [z] at hsome; cases hsome) (wd_G_F (wd_G_A hA) (wd_F_Q (wt_Q_tr g7 g8)))
      rw [hf] at h2
      exact h2
    · have hnone : r6.2.2 = none := by
        cases hx : r6.2.2 with
        | none => rfl
        | some z => rw [hx] at hz; cases hz
      obtain ⟨b1, b2, b3, b4, b5, b6, b7⟩ := nmh_b (ts := ts) (n := n) (by rw [q6]; exact hnone)
      rw [q2] at b5
      rw [q3] at b6
      rw [qg] at b7
      have e3 : r3.1.toInt = nmHB ts n := by rw [b6, wi_on (by omega)]
      refine ⟨by omega, by omega, nmHA ts n, nmHB ts n, nmHG ts n, b5, b6, b7, b2, b3, b4, ?_, ?_, ?_, ?_, fun I9 k9 v9 f9 => ?_⟩
      · exact wt_K_D hC7 g8.1 wd_new_F
      · rw [wd_new_8.1, b5]
      · rw [wd_new_8.2.1, b6]
      · exact ⟨by rw [wd_new_8.2.2], by unfold wd_new; rw [wv_u_at]; rfl⟩
      · have hf : nmFault ts n = (nmE ts n (nmHA ts n) (nmHB ts n) (nmHG ts n) r6.2).2 := by
          unfold nmFault nmHE
          rw [q6]
          exact if_neg (by rw [hnone]; decide)
        have h2 := h I9 L1 (by rw [hf]; exact k9.2.2.2.2.2.2.2.1) (fun _ => by rw [q6]; exact v9) (wd_G_F (wd_G_F (wd_G_F (wd_G_A hA) (wd_F_Q (wt_Q_tr g7 g8))) (wd_F_D wd_new_F)) f9)
        rw [hf] at h2
        exact h2
  clear h q0 q1 q2 q3 q4 qg q5 q6
  have hc83 : wv_C wm_fx sc (d + 1 + 1 + 1 + 1 + 1 + 1) 83 wt_c83 := wv_C_deep (by omega) (wt_scanNums hf (d := d))
  have hc49 : wv_C wm_fx sc (d + 1 + 1 + 1 + 1 + 1 + 1) 49 wt_c49 := wv_C_deep (by omega) (wt_take (d := d))
  have hc86 : wv_C wm_fx sc (d + 1 + 1 + 1 + 1 + 1 + 1) 86 wt_c86 := wv_C_deep (by omega) (wt_readNumber (d := d))
  have hc52 : wv_C wm_fx sc (d + 1 + 1 + 1 + 1 + 1 + 1) 52 wt_c52 := wv_C_deep (by omega) (wt_refuse (d := d))
  have hc61 : wv_C wm_fx sc (d + 1 + 1 + 1 + 1 + 1 + 1) 61 wt_c61 := wv_C_deep (by omega) (wt_faulty (d := d))
  have hc58 : wv_C wm_fx sc (d + 1 + 1 + 1 + 1 + 1 + 1) 58 wd_c58 := wv_C_deep (by omega) (wd_reset (d := d))
  have hc88 : wv_C wm_fx sc (d + 1 + 1 + 1 + 1 + 1 + 1) 88 wt_c88 := wv_C_deep (by omega) (wt_readLiterals (d := d))
  have hc77 : wv_C wm_fx sc (d + 1 + 1 + 1 + 1 + 1 + 1) 77 wt_c77 := wv_C_deep (by omega) (wt_fault (d := d))
  refine wv_meth (hh := none) rfl (sp := wv_sp [(83, wt_c83), (49, wt_c49), (86, wt_c86), (52, wt_c52), (61, wt_c61), (58, wd_c58), (88, wt_c88), (77, wt_c77)]) (hd := wt_h82 C ts n r1 r2 r3 s5 T N I L R) (n := 300) (n1 := 300) hm zc_82 rfl (wv_sp_ok (fun q hq => by
    rcases List.mem_cons.mp hq with h | h
    · rw [h]; exact hc83
    rcases List.mem_cons.mp h with h | h
    · rw [h]; exact hc49
    rcases List.mem_cons.mp h with h | h
    · rw [h]; exact hc86
    rcases List.mem_cons.mp h with h | h
    · rw [h]; exact hc52
    rcases List.mem_cons.mp h with h | h
    · rw [h]; exact hc61
    rcases List.mem_cons.mp h with h | h
    · rw [h]; exact hc58
    rcases List.mem_cons.mp h with h | h
    · rw [h]; exact hc88
    rw [List.mem_singleton.mp h]; exact hc77)) ?_ ?_ HR
  · refine ⟨n, rfl, hT, hS, h6, hn, fun I1 L1 hK hA => ?_⟩
    rw [hts] at hK
    refine ⟨ts, n, (0, none), _, rfl, hT, hK, fun I2 g2 => ?_⟩
    rw [hs0] at g2
    refine ⟨ts, n, s0, _, _, rfl, hT, g2.1, fun I3 g3 => ?_⟩
    rw [hr1] at g3 ⊢
    refine ⟨ts, n, r1.2, _, _, rfl, hT, g3.1, fun I4 g4 => ?_⟩
    rw [hr2] at g4 ⊢
    refine ⟨ts, n, r2.2, _, _, rfl, hT, g4.1, fun I5 g5 => ?_⟩
    rw [hr3] at g5 ⊢
    refine ⟨ts, n, r3.2, _, _, rfl, hT, g5.1, fun I6 g6 => ?_⟩
    rw [hr4] at g6
    have gA : wt_Q I1 L1 ts n r4.2 I6 := wt_Q_tr (wt_Q_tr (wt_Q_tr (wt_Q_tr g2 g3) g4) g5) g6
    refine ⟨fun h1 => ?_, fun h1 => ?_⟩
    · refine ⟨ts, n, r4.2, rfl, hT, gA.1, fun I7 g7 => ?_⟩
      have e5 : tk_ref ts n r4.2 = s5 := by rw [← hs5, if_pos (Or.inl h1)]
      exact ⟨0, I1, rfl, rfl, rfl, rfl, rfl, rfl, rfl, hA, by rw [← e5]; exact wt_Q_tr gA g7⟩
    refine ⟨fun h2 => ?_, fun h2 => ?_⟩
    · have e5 : r4.2 = s5 := by rw [← hs5, if_neg (fun z => z.elim h1 (fun z => Int32.not_lt.mpr h2 z))]
      exact ⟨0, I1, rfl, rfl, rfl, rfl, rfl, rfl, rfl, hA, by rw [← e5]; exact gA⟩
    · refine ⟨ts, n, r4.2, rfl, hT, gA.1, fun I7 g7 => ?_⟩
      have e5 : tk_ref ts n r4.2 = s5 := by rw [← hs5, if_pos (Or.inr (Int32.not_le.mp h2))]
      exact ⟨0, I1, rfl, rfl, rfl, rfl, rfl, rfl, rfl, hA, by rw [← e5]; exact wt_Q_tr gA g7⟩
  · intro pc P hP m lv st T1 N1 I1 L1 R1 nc ns hh
    unfold wt_h82 at hP
    split at hP
    · cases hP
      rename_i hpc
      subst hpc
      obtain ⟨J, rfl, rfl, rfl, rfl, rfl, rfl, rfl, hA, hQ⟩ := hh
      obtain ⟨m1, m2⟩ := main J L1 hA I1 hQ
      refine ⟨ts, n, s5, _, _, rfl, hT, m1, fun I8 g8 => ?_⟩
      rw [hr6] at g8
      obtain ⟨m3, m4, m5⟩ := m2 I8 g8
      refine ⟨ts, n, r6.2, rfl, hT, m3, ?_⟩
      refine ⟨fun z => ?_, fun z => ?_⟩
      · exact ⟨ts, n, r6.2, rfl, hT, m3, m4 z⟩
      · obtain ⟨c1, c2, A, B, G, d1, d2, d3, d4, d5, d6, d7, d8, d9, d10, d11⟩ := m5 (Decidable.not_not.mp z)
        refine ⟨hD.1, C, r2.1, r3.1, rfl, hD, hC0, c1, c2, ?_⟩
        refine ⟨ts, n, A, B, G, C, r6.2, ?_, hT, hD, hC7, hC0, d4, d5, d6, d7, d8, d9, d10, fun I9 k9 v9 f9 => ?_⟩
        · show [Value.ref 26, .ref C, .int r2.1, .int r3.1, .int (r1.1 - r2.1 - r3.1)] = _
          rw [d3, d1, d2]
        exact ⟨ts, n, nmE ts n A B G r6.2, rfl, hT, k9, d11 I9 k9 v9 f9⟩
    · cases hP
