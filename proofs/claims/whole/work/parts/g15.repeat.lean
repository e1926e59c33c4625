/-! ===== the class: repetitions ===== -/
theorem ww_W_c {fl : Bool} {I J : Nat → Nat → Int32} {L : Nat → Nat → Int64} {ps : ww_s} (h : ww_W fl I L ps) (hJ : ∀ c j, (c = 10 ∨ c = 14 ∨ c = 15 ∨ c = 18) → J c j = I c j) : ww_W fl J L ps := by
  have e : ∀ c, (c = 10 ∨ c = 14 ∨ c = 15 ∨ c = 18) → J c = I c := fun c hc => funext (fun j => hJ c j hc)
  have hP : ∀ k lo A, ww_P I L k lo A → ww_P J L k lo A := by
    intro k lo A h
    unfold ww_P at h ⊢
    simp only [e 15 (by decide), e 18 (by decide), e 14 (by decide), e 10 (by decide)]
    exact h
  have hok : ∀ ps, ww_ok I L ps → ww_ok J L ps := by
    intro ps
    induction ps with
    | nil => exact id
    | cons x l ih => exact fun h => ⟨hP _ _ _ h.1, ih h.2⟩
  have hws : ∀ ps, ww_ws I ps → ww_ws J ps := by
    intro ps
    induction ps with
    | nil => exact id
    | cons x l ih =>
      intro h
      unfold ww_ws at h ⊢
      simp only [e 14 (by decide)]
      exact ⟨h.1, ih h.2⟩
  obtain ⟨h1, h2, h3, h4, h5⟩ := h
  refine ⟨by rw [hJ _ _ (by decide)]; exact h1, h2, by rw [hJ _ _ (by decide)]; exact h3, hws _ h4, fun z => ?_⟩
  obtain ⟨a, b, c⟩ := h5 z
  exact ⟨by rw [hJ _ _ (by decide)]; exact a, b, hok _ c⟩
/-- the tokens stand while the weaver works -/
theorem wt_K_W {I I1 : Nat → Nat → Int32} {L L1 : Nat → Nat → Int64} {ts : List wt_t} {n a : Nat} {f : Option Nat} (h : wt_K I L ts n a f) (hF : ww_F I L I1 L1) : wt_K I1 L1 ts n a f := by
  have e : ∀ c, c < 8 → I1 c = I c := fun c hc => funext (fun j => hF.1 c j (by omega) (by omega))
  have e7 : L1 7 = L 7 := funext (fun j => hF.2 7 j (by omega))
  unfold wt_K at h ⊢
  simp only [e 1 (by decide), e 3 (by decide), e 4 (by decide), e 5 (by decide), e 6 (by decide), e7]
  exact h
/-- what a repetition makes of a piece, and where the tokens stand behind it -/
def rp (ts : List wt_t) (n : Nat) (mo : Option (Nat → Bool)) (s : wt_q) (x : Nat × nt_A) : (Nat × nt_A) × wt_q :=
  if (tk_now ts s).toInt = 20 then ((x.1, nt_star true x.2), tk_adv ts s)
  else if (tk_now ts s).toInt = 21 then ((x.1, nt_star false x.2), tk_adv ts s)
  else if (tk_now ts s).toInt = 22 then (if (tk_high ts s.1).toNatClampNeg < (tk_low ts s.1).toNatClampNeg then (x, tk_ref ts n s) else ((min (x.1 * ww_mx (tk_high ts s.1).toNatClampNeg) 1000, nt_times (tk_low ts s.1).toNatClampNeg (tk_high ts s.1).toNatClampNeg x.2), tk_adv ts s))
  else if (tk_now ts s).toInt = 23 then (match mo with
    | some m => if (tk_low ts s.1).toNatClampNeg = 0 then (x, tk_ref ts n s) else ((nt_S (tk_low ts s.1).toNatClampNeg false, nt_count (tk_low ts s.1).toNatClampNeg false m), tk_adv ts s)
    | none => (x, tk_ref ts n s))
  else if (tk_now ts s).toInt = 24 then (match mo with
    | some m => ((nt_S (tk_low ts s.1).toNatClampNeg true, nt_count (tk_low ts s.1).toNatClampNeg true m), tk_adv ts s)
    | none => (x, tk_ref ts n s))
  else (x, s)
def rp_F (I : Nat → Nat → Int32) (L : Nat → Nat → Int64) (I1 : Nat → Nat → Int32) (L1 : Nat → Nat → Int64) : Prop := (∀ c j, ¬ (c = 1 ∧ (j = 8 ∨ j = 9)) → ¬ (c = 10 ∧ 8 ≤ j ∧ j ≤ 10) → ¬ (c = 14 ∨ c = 15 ∨ c = 18) → I1 c j = I c j) ∧ ∀ c j, ¬ (c = 11 ∨ c = 12 ∨ c = 13 ∨ c = 16 ∨ c = 17) → L1 c j = L c j
theorem nt_times_n {lo hi : Nat} {A : nt_A} : nt_n (nt_times lo hi A) = nt_n A * ww_mx hi := by
  unfold ww_mx
  by_cases h : hi = 0
  · rw [if_pos (by omega)]
    unfold nt_times
    rw [if_pos h, Nat.mul_one]
    rfl
  · rw [if_neg (by omega)]
    exact (nt_times_p h).1
theorem ww_I_s {fl : Bool} {b : Bool} {x : Nat × nt_A} {l : ww_s} (h : ww_I fl (x :: l)) : ww_I fl ((x.1, nt_star b x.2) :: l) := by
  refine ⟨fun e => h.1 e, fun w hw => ?_⟩
  rcases List.mem_cons.mp hw with e | e
  · rw [e]; exact h.2 x List.mem_cons_self
  · exact h.2 w (List.mem_cons_of_mem _ e)
theorem ww_I_t {fl : Bool} {lo hi : Nat} {x : Nat × nt_A} {l : ww_s} (h : ww_I fl (x :: l)) : ww_I (ww_fl fl (ww_sz (x :: l) + nt_n x.2 * (ww_mx hi - 1))) ((min (x.1 * ww_mx hi) 1000, nt_times lo hi x.2) :: l) := by
  obtain ⟨a, b⟩ := h
  have bx := b x List.mem_cons_self
  have bl := ww_sz_le (ps := l) (fun z hz => b z (List.mem_cons_of_mem _ hz))
  have hm : 1 ≤ ww_mx hi := by unfold ww_mx; split <;> omega
  have k1 : x.1 ≤ x.1 * ww_mx hi := by
    have := Nat.mul_le_mul (Nat.le_refl x.1) hm
    omega
  have k2 : nt_n x.2 * ww_mx hi ≤ x.1 * ww_mx hi ∨ 1000 ≤ x.1 * ww_mx hi := bx.elim (fun z => Or.inl (Nat.mul_le_mul z (Nat.le_refl _))) (fun z => Or.inr (by omega))
  have k3 : nt_n x.2 * (ww_mx hi - 1) + nt_n x.2 = nt_n x.2 * ww_mx hi := by
    obtain ⟨q, hq⟩ : ∃ q, ww_mx hi = q + 1 := ⟨ww_mx hi - 1, by omega⟩
    rw [hq, Nat.add_sub_cancel, Nat.mul_succ]
  refine ⟨fun e => ?_, fun w hw => ?_⟩
  · show 41 ≤ min (x.1 * ww_mx hi) 1000 + ww_sum l
    rcases (Bool.or_eq_true _ _).mp (show (fl || decide (41 ≤ ww_sz (x :: l) + nt_n x.2 * (ww_mx hi - 1))) = true from e) with e | e
    · have : 41 ≤ x.1 + ww_sum l := a e
      omega
    · have e := of_decide_eq_true e
      have e : 41 ≤ nt_n x.2 + ww_sz l + nt_n x.2 * (ww_mx hi - 1) := e
      omega
  · rcases List.mem_cons.mp hw with e | e
    · rw [e]
      show nt_n (nt_times lo hi x.2) ≤ min (x.1 * ww_mx hi) 1000 ∨ 1000 ≤ min (x.1 * ww_mx hi) 1000
      rw [nt_times_n]
      omega
    · exact b w (List.mem_cons_of_mem _ e)
theorem ww_I_c {fl : Bool} {k : Nat} {wb : Bool} {m : Nat → Bool} {l : ww_s} (h : ww_I fl ((1, nt_cond m) :: l)) (hk : 1 ≤ nt_S k wb) : ww_I (ww_fl fl (ww_sz l + nt_S k wb)) ((nt_S k wb, nt_count k wb m) :: l) := by
  obtain ⟨a, b⟩ := h
  have bl := ww_sz_le (ps := l) (fun z hz => b z (List.mem_cons_of_mem _ hz))
  refine ⟨fun e => ?_, fun w hw => ?_⟩
  · show 41 ≤ nt_S k wb + ww_sum l
    rcases (Bool.or_eq_true _ _).mp (show (fl || decide (41 ≤ ww_sz l + nt_S k wb)) = true from e) with e | e
    · have : 41 ≤ 1 + ww_sum l := a e
      omega
    · have e := of_decide_eq_true e
      omega
  · rcases List.mem_cons.mp hw with e | e
    · rw [e]
      exact Or.inl (Nat.le_refl _)
    · exact b w (List.mem_cons_of_mem _ e)
/-- the counts of a token -/
theorem tk_ct {ts : List wt_t} {s : wt_q} (hv : ∀ x, x ∈ ts → pr_vt x) (h : 22 ≤ (tk_now ts s).toInt ∧ (tk_now ts s).toInt ≤ 25) : ∃ a b, a < 10 ∧ b < 10 ∧ tk_low ts s.1 = Int32.ofNat a ∧ tk_high ts s.1 = Int32.ofNat b := by
  obtain ⟨hs, hl, _⟩ := tk_now_adv (ts := ts) (s := s) (fun z => by rw [z] at h; exact absurd h (by decide))
  have ha : ts[s.1]? = some ts[s.1] := List.getElem?_eq_getElem hl
  have hn := tk_now_at hs ha
  rw [hn] at h
  obtain ⟨_, _, _, hc⟩ := hv _ (List.getElem_mem hl)
  have hct : pr_ct ts[s.1] := by
    have e : ∀ k : Int32, ts[s.1].1.toInt = k.toInt → ts[s.1].1 = k := fun k hk => wi_eq.mpr hk
    have e22 : (22 : Int32).toInt = 22 := rfl
    have e23 : (23 : Int32).toInt = 23 := rfl
    have e24 : (24 : Int32).toInt = 24 := rfl
    have e25 : (25 : Int32).toInt = 25 := rfl
    have : ts[s.1].1.toInt = 22 ∨ ts[s.1].1.toInt = 23 ∨ ts[s.1].1.toInt = 24 ∨ ts[s.1].1.toInt = 25 := by omega
    rcases this with z | z | z | z
    · exact Or.inl (e 22 (by rw [z, e22]))
    · exact Or.inr (Or.inl (e 23 (by rw [z, e23])))
    · exact Or.inr (Or.inr (Or.inl (e 24 (by rw [z, e24]))))
    · exact Or.inr (Or.inr (Or.inr (e 25 (by rw [z, e25]))))
  obtain ⟨a, b, a1, b1, a2, b2⟩ := hc hct
  refine ⟨a, b, a1, b1, ?_, ?_⟩
  · unfold tk_low; rw [ha]; exact a2
  · unfold tk_high; rw [ha]; exact b2
def pj_c137 : wv_c1 := fun as T N I L R q => ∃ (ts : List wt_t) (n : Nat) (s : wt_q) (mo : Option (Nat → Bool)) (fl : Bool) (x : Nat × nt_A) (l : ww_s), as = [.ref 9, .int (wb_i mo.isSome)] ∧ wm_T T ∧ wt_K I L ts n s.1 s.2 ∧ (∀ y, y ∈ ts → pr_vt y) ∧ ww_W fl I L (x :: l) ∧ ww_I fl (x :: l) ∧ (∀ m, mo = some m → x = (1, nt_cond m)) ∧ ∀ fl1 I1 L1, ww_W fl1 I1 L1 ((rp ts n mo s x).1 :: l) → ww_I fl1 ((rp ts n mo s x).1 :: l) → wt_K I1 L1 ts n (rp ts n mo s x).2.1 (rp ts n mo s x).2.2 → rp_F I L I1 L1 → q (.inl none) T N I1 L1 R 0 0
set_option maxRecDepth 100000 in
theorem wM_137 : ∃ cb ci np, pt_mt 137 = some (4, cb, 4, false, none, ci, np) := ⟨_, _, _, rfl⟩
set_option maxRecDepth 100000 in
set_option maxHeartbeats 4000000 in
theorem pj_repeat {sc : pt_Sc} {d : Nat} : wv_C wm_fx sc (d + 1 + 1 + 1 + 1) 137 pj_c137 := by
  rintro as T N I L R q ⟨ts, n, s, mo, fl, x, l, rfl, hT, hK, hv, hW, hI, hmo, h⟩ w0 HR
  obtain ⟨cb, ci, np, hm⟩ := wM_137
  have hc50 : wv_C wm_fx sc (d + 1 + 1 + 1) 50 wt_c50 := wv_C_deep (by omega) (wt_now (d := d))
  have hc51 : wv_C wm_fx sc (d + 1 + 1 + 1) 51 wt_c51 := wv_C_deep (by omega) (wt_advance (d := d))
  have hc52 : wv_C wm_fx sc (d + 1 + 1 + 1) 52 wt_c52 := wv_C_deep (by omega) (wt_refuse (d := d))
  have hc87 : wv_C wm_fx sc (d + 1 + 1 + 1) 87 wt_c87 := wv_C_deep (by omega) (wt_low (d := d))
  have hc138 : wv_C wm_fx sc (d + 1 + 1 + 1) 138 wt_c138 := wv_C_deep (by omega) (wt_high (d := d))
  have hc139 : wv_C wm_fx sc (d + 1 + 1 + 1) 139 ww_c139 := wv_C_deep (by omega) (ww_star (d := d))
  have hc143 : wv_C wm_fx sc (d + 1 + 1 + 1) 143 ww_c143 := wv_C_deep (by omega) (ww_times (d := d))
  have hc145 : wv_C wm_fx sc (d + 1 + 1 + 1) 145 ww_c145 := wv_C_deep (by omega) (ww_count (d := d))
  refine wv_meth (hh := none) rfl (sp := wv_sp [(50, wt_c50), (51, wt_c51), (52, wt_c52), (87, wt_c87), (138, wt_c138), (139, ww_c139), (143, ww_c143), (145, ww_c145)]) (hd := fun _ => none) (n := 0) (n1 := 300) hm zc_137 rfl (wv_sp_ok (fun q hq => by
    rcases List.mem_cons.mp hq with h | h
    · rw [h]; exact hc50
    rcases List.mem_cons.mp h with h | h
    · rw [h]; exact hc51
    rcases List.mem_cons.mp h with h | h
    · rw [h]; exact hc52
    rcases List.mem_cons.mp h with h | h
    · rw [h]; exact hc87
    rcases List.mem_cons.mp h with h | h
    · rw [h]; exact hc138
    rcases List.mem_cons.mp h with h | h
    · rw [h]; exact hc139
    rcases List.mem_cons.mp h with h | h
    · rw [h]; exact hc143
    rw [List.mem_singleton.mp h]; exact hc145)) ?_ (fun pc P h => by cases h) HR
  refine ⟨ts, n, s, rfl, hT, hK, ?_⟩
  refine ⟨ts, n, s, rfl, hT, hK, ?_⟩
  refine ⟨ts, n, s, rfl, hT, hK, ?_⟩
  -- an operation and an advance
  have advQ : ∀ (z : Nat × nt_A) (fl1 : Bool) (I1 : Nat → Nat → Int32) (L1 : Nat → Nat → Int64), rp ts n mo s x = (z, tk_adv ts s) → ww_W fl1 I1 L1 (z :: l) → ww_F I L I1 L1 → ww_I fl1 (z :: l) → wt_K I1 L1 ts n s.1 s.2 ∧ ∀ J, wt_Q I1 L1 ts n (tk_adv ts s) J → q (.inl none) T N J L1 R 0 0 := by
    intro z fl1 I1 L1 e hz hF hiz
    refine ⟨wt_K_W hK hF, fun J hQ => ?_⟩
    refine h fl1 J L1 ?_ ?_ ?_ ⟨fun c j a b d => ?_, fun c j a => hF.2 c j a⟩
    · rw [e]; exact ww_W_c hz (fun c j hc => hQ.2 c j (by omega))
    · rw [e]; exact hiz
    · rw [e]; exact hQ.1
    · rw [hQ.2 c j a]; exact hF.1 c j b d
  have ref : rp ts n mo s x = (x, tk_ref ts n s) → ∀ J, wt_Q I L ts n (tk_ref ts n s) J → q (.inl none) T N J L R 0 0 := by
    intro e J hQ
    refine h fl J L ?_ ?_ ?_ ⟨fun c j a b d => hQ.2 c j a, fun _ _ _ => rfl⟩
    · rw [e]; exact ww_W_c hW (fun c j hc => hQ.2 c j (by omega))
    · rw [e]; exact hI
    · rw [e]; exact hQ.1
  refine ⟨fun z => ?_, fun z0 => ?_⟩
  · refine ⟨fl, true, x, l, rfl, hT, hW, fun I1 L1 a b => ?_⟩
    obtain ⟨c1, c2⟩ := advQ _ _ I1 L1 (by unfold rp; rw [if_pos (show (tk_now ts s).toInt = 20 by omega)]) a b (ww_I_s hI)
    exact ⟨ts, n, s, rfl, hT, c1, c2⟩
  refine ⟨fun z => ?_, fun z1 => ?_⟩
  · refine ⟨fl, false, x, l, rfl, hT, hW, fun I1 L1 a b => ?_⟩
    obtain ⟨c1, c2⟩ := advQ _ _ I1 L1 (by unfold rp; rw [if_neg (show ¬ (tk_now ts s).toInt = 20 by omega), if_pos (show (tk_now ts s).toInt = 21 by omega)]) a b (ww_I_s hI)
    exact ⟨ts, n, s, rfl, hT, c1, c2⟩
  refine ⟨fun z => ?_, fun z2 => ?_⟩
  · obtain ⟨lo, hi, l1, h1, l2, h2⟩ := tk_ct hv (show 22 ≤ (tk_now ts s).toInt ∧ (tk_now ts s).toInt ≤ 25 by omega)
    have el := wi_on (n := lo) (by omega)
    have eh := wi_on (n := hi) (by omega)
    have er : rp ts n mo s x = if hi < lo then (x, tk_ref ts n s) else ((min (x.1 * ww_mx hi) 1000, nt_times lo hi x.2), tk_adv ts s) := by
      unfold rp
      rw [if_neg (show ¬ (tk_now ts s).toInt = 20 by omega), if_neg (show ¬ (tk_now ts s).toInt = 21 by omega), if_pos (show (tk_now ts s).toInt = 22 by omega), l2, h2, wi_onn (by omega), wi_onn (by omega)]
    rw [l2, h2]
    refine ⟨fun w => ?_, fun w => ?_⟩
    · rw [wi_le, el, eh] at w
      refine ⟨fl, lo, hi, x, l, rfl, hT, hW, by omega, by omega, fun I1 L1 a b => ?_⟩
      obtain ⟨c1, c2⟩ := advQ _ _ I1 L1 (by rw [er, if_neg (by omega)]) a b (ww_I_t hI)
      exact ⟨ts, n, s, rfl, hT, c1, c2⟩
    · rw [wi_le, el, eh] at w
      exact ⟨ts, n, s, rfl, hT, hK, ref (by rw [er, if_pos (by omega)])⟩
  refine ⟨fun z => ?_, fun z3 => ?_⟩
  · obtain ⟨lo, hi, l1, h1, l2, h2⟩ := tk_ct hv (show 22 ≤ (tk_now ts s).toInt ∧ (tk_now ts s).toInt ≤ 25 by omega)
    have el := wi_on (n := lo) (by omega)
    rw [l2]
    cases mo with
    | none =>
      refine ⟨fun _ => ?_, fun w => (w rfl).elim⟩
      exact ⟨ts, n, s, rfl, hT, hK, ref (by unfold rp; rw [if_neg (show ¬ (tk_now ts s).toInt = 20 by omega), if_neg (show ¬ (tk_now ts s).toInt = 21 by omega), if_neg (show ¬ (tk_now ts s).toInt = 22 by omega), if_pos (show (tk_now ts s).toInt = 23 by omega)])⟩
    | some m0 =>
      have er : rp ts n (some m0) s x = if lo = 0 then (x, tk_ref ts n s) else ((nt_S lo false, nt_count lo false m0), tk_adv ts s) := by
        unfold rp
        rw [if_neg (show ¬ (tk_now ts s).toInt = 20 by omega), if_neg (show ¬ (tk_now ts s).toInt = 21 by omega), if_neg (show ¬ (tk_now ts s).toInt = 22 by omega), if_pos (show (tk_now ts s).toInt = 23 by omega), l2, wi_onn (by omega)]
      refine ⟨fun w => absurd (show (1 : Int32) = 0 from w) (by decide), fun _ => ?_⟩
      refine ⟨fun w => ?_, fun w => ?_⟩
      · have hlo : ¬ lo = 0 := fun e => w (by rw [e]; rfl)
        have hx := hmo m0 rfl
        subst hx
        have hS : 1 ≤ nt_S lo false := by unfold nt_S; omega
        refine ⟨fl, lo, false, m0, l, rfl, hT, hW, by omega, hS, fun I1 L1 a b => ?_⟩
        obtain ⟨c1, c2⟩ := advQ _ _ I1 L1 (by rw [er, if_neg hlo]) a b (ww_I_c hI hS)
        exact ⟨ts, n, s, rfl, hT, c1, c2⟩
      · have hlo : lo = 0 := by
          have := congrArg Int32.toInt (Decidable.not_not.mp w)
          rw [el, wi_0] at this
          omega
        exact ⟨ts, n, s, rfl, hT, hK, ref (by rw [er, if_pos hlo])⟩
  refine ⟨fun z => ?_, fun z4 => ?_⟩
  · obtain ⟨lo, hi, l1, h1, l2, h2⟩ := tk_ct hv (show 22 ≤ (tk_now ts s).toInt ∧ (tk_now ts s).toInt ≤ 25 by omega)
    rw [l2]
    cases mo with
    | none =>
      refine ⟨fun w => (w rfl).elim, fun _ => ?_⟩
      exact ⟨ts, n, s, rfl, hT, hK, ref (by unfold rp; rw [if_neg (show ¬ (tk_now ts s).toInt = 20 by omega), if_neg (show ¬ (tk_now ts s).toInt = 21 by omega), if_neg (show ¬ (tk_now ts s).toInt = 22 by omega), if_neg (show ¬ (tk_now ts s).toInt = 23 by omega), if_pos (show (tk_now ts s).toInt = 24 by omega)])⟩
    | some m0 =>
      have er : rp ts n (some m0) s x = ((nt_S lo true, nt_count lo true m0), tk_adv ts s) := by
        unfold rp
        rw [if_neg (show ¬ (tk_now ts s).toInt = 20 by omega), if_neg (show ¬ (tk_now ts s).toInt = 21 by omega), if_neg (show ¬ (tk_now ts s).toInt = 22 by omega), if_neg (show ¬ (tk_now ts s).toInt = 23 by omega), if_pos (show (tk_now ts s).toInt = 24 by omega), l2, wi_onn (by omega)]
      refine ⟨fun _ => ?_, fun w => absurd (show ¬ (1 : Int32) = 0 by decide) w⟩
      have hx := hmo m0 rfl
      subst hx
      have hS : 1 ≤ nt_S lo true := by unfold nt_S; rw [if_pos rfl]; omega
      refine ⟨fl, lo, true, m0, l, rfl, hT, hW, by omega, hS, fun I1 L1 a b => ?_⟩
      obtain ⟨c1, c2⟩ := advQ _ _ I1 L1 er a b (ww_I_c hI hS)
      exact ⟨ts, n, s, rfl, hT, c1, c2⟩
  have er : rp ts n mo s x = (x, s) := by
    unfold rp
    rw [if_neg (show ¬ (tk_now ts s).toInt = 20 by omega), if_neg (show ¬ (tk_now ts s).toInt = 21 by omega), if_neg (show ¬ (tk_now ts s).toInt = 22 by omega), if_neg (show ¬ (tk_now ts s).toInt = 23 by omega), if_neg (show ¬ (tk_now ts s).toInt = 24 by omega)]
  exact h fl I L (by rw [er]; exact hW) (by rw [er]; exact hI) (by rw [er]; exact hK) ⟨fun _ _ _ _ _ => rfl, fun _ _ _ => rfl⟩
