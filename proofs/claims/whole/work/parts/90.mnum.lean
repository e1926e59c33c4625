/-! ===== the reference: numbers as tokens ===== -/
theorem wv_C_mono {fx : wv_fx} {sc : pt_Sc} {d j : Nat} {c c2 : wv_c1} (h : wv_C fx sc d j c) (hc : ∀ as T N I L R q, c2 as T N I L R q → c as T N I L R q) : wv_C fx sc d j c2 := fun as T N I L R q hq w HR => h as T N I L R q (hc as T N I L R q hq) w HR
/-- the reference's text is the tokens' -/
def wp_Y (T : wv_T) (I : Nat → Nat → Int32) (t : Nat → Int32) (n : Nat) : Prop := wt_mok T I ∧ wt_m I = t ∧ n ≤ 400 ∧ wt_tx t n
theorem wp_Y_F {T : wv_T} {I J : Nat → Nat → Int32} {t : Nat → Int32} {n : Nat} (h : wp_Y T I t n) (hF : wp_F I J) : wp_Y T J t n := ⟨wp_F_ok hF h.1, by rw [wp_F_m hF]; exact h.2.1, h.2.2⟩
/-- a number within bounds, as a token -/
def wp_c488b : wv_c1 := fun as T N I L R q => ∃ (lo hi : Int32) (ts : List wt_t) (n a : Nat) (t : Nat → Int32), as = [.ref 460, .int lo, .int hi] ∧ wp_Y T I t n ∧ wp_Z (nm_st t n) ts n (a, none) I ∧ ∀ v I1, wp_Z (nm_st t n) ts n (nm_rd ts n lo hi (a, none)).2 I1 → ((nm_rd ts n lo hi (a, none)).2.2 = none → v = (nm_rd ts n lo hi (a, none)).1) → wp_F I I1 → q (.inl (some (.int v))) T N I1 L R 0 0
theorem wp_numberTok {sc : pt_Sc} {d : Nat} : wv_C wm_fx sc (d + 1 + 1) 488 wp_c488b := by
  refine wv_C_mono wp_numberWithin ?_
  rintro as T N I L R q ⟨lo, hi, ts, n, a, t, rfl, ⟨hk, rfl, hn, ht⟩, ⟨e, h5, he, h8, hz⟩, h⟩
  refine ⟨lo, hi, e, rfl, hk, h5, by omega, by rw [h8]; decide, ?_⟩
  intro p d I1 hs hd hpd i4 i5 i8 hF
  obtain ⟨hpn, x, l, hx, hxp, hcase⟩ := nm_head ht he hs hd
  rw [hx] at hz
  obtain ⟨hta, htd⟩ := tk_drop hz
  rcases hcase with ⟨d1, d4, xk, xv, xl, xn⟩ | ⟨hd0, xk, _, _, _⟩
  · by_cases hb : x.2.2.1 < lo ∨ hi < x.2.2.1
    · have er := nm_rd_bad (n := n) (lo := lo) (hi := hi) hta (Or.inr hb)
      refine h _ I1 ?_ (fun z => by rw [er] at z; cases z) hF
      rw [er]
      rw [if_pos (by rw [← xv]; exact Or.inr (Or.inr hb))] at i8
      exact ⟨by rw [i8, hxp], by rw [hxp]; omega, p + d, i5, hpd⟩
    · have er := nm_rd_good (n := n) hta xk hb
      refine h _ I1 ?_ (fun _ => by rw [er, xv]) hF
      rw [er]
      have hnb : ¬ (d = 0 ∨ 4 < d ∨ nm_val (wt_m I) p (min d 4) < lo ∨ hi < nm_val (wt_m I) p (min d 4)) := by
        rintro (z | z | z)
        · omega
        · omega
        · rw [← xv] at z
          exact hb z
      rw [if_neg hnb] at i8
      exact ⟨p + d, i5, xn, by rw [i8, h8], by rw [← xl]; exact htd⟩
  · have er := nm_rd_bad (n := n) (lo := lo) (hi := hi) hta (Or.inl xk)
    refine h _ I1 ?_ (fun z => by rw [er] at z; cases z) hF
    rw [er]
    rw [if_pos (by omega)] at i8
    exact ⟨by rw [i8, hxp], by rw [hxp]; omega, p + d, i5, hpd⟩
def wp_h487 (e : Nat) (T : wv_T) (N : Nat) (I : Nat → Nat → Int32) (L : Nat → Nat → Int64) (R : Nat → Nat → Option Nat) : Nat → Option (Nat → wv_P) := fun pc =>
  if pc = 0 then some (fun m lv st T1 N1 I1 L1 R1 nc ns => ∃ p : Nat, lv = [some (.ref 460), none] ∧ st = [] ∧ T1 = T ∧ N1 = N ∧ L1 = L ∧ R1 = R ∧ nc = 0 ∧ ns = 0 ∧ m = 3000 - p ∧ p ≤ 400 ∧ I1 460 5 = Int32.ofNat p ∧ I1 460 8 = I 460 8 ∧ wp_F I I1 ∧ e ≤ p ∧ (∀ k, e ≤ k → k < p → wt_m I k = (Int8.ofInt 32).toInt32))
  else none
def wp_c487 : wv_c1 := fun as T N I L R q => ∃ e : Nat, as = [.ref 460] ∧ wt_mok T I ∧ I 460 5 = Int32.ofNat e ∧ e ≤ 400 ∧ I 460 8 < 0 ∧ ∀ p I1, wt_sk (wt_m I) e p → p ≤ 400 → (wt_rd (wt_m I) p [97, 97, 103] = true → I1 460 5 = Int32.ofNat (p + 3) ∧ I1 460 8 = I 460 8) → (¬ wt_rd (wt_m I) p [97, 97, 103] = true → I1 460 5 = Int32.ofNat p ∧ I1 460 8 = Int32.ofNat p) → wp_F I I1 → q (.inl none) T N I1 L R 0 0
set_option maxRecDepth 100000 in
theorem wM_487 : ∃ cb ci np, pt_mt 487 = some (32, cb, 1, false, none, ci, np) := ⟨_, _, _, rfl⟩
set_option maxRecDepth 100000 in
set_option maxHeartbeats 4000000 in
theorem wp_takeWord {sc : pt_Sc} {d : Nat} : wv_C wm_fx sc (d + 1 + 1) 487 wp_c487 := by
  rintro as T N I L R q ⟨e, rfl, hk, h5, he, h8, h⟩ w0 HR
  obtain ⟨cb, ci, np, hm⟩ := wM_487
  have hc349 : wv_C wm_fx sc (d + 1) 349 wp_c349 := wv_C_deep (by omega) (wp_at (d := d))
  have hc358 : wv_C wm_fx sc (d + 1) 358 wp_c358 := wv_C_deep (by omega) (wp_badC (d := d))
  refine wv_meth (hh := none) rfl (sp := wv_sp [(349, wp_c349), (358, wp_c358)]) (hd := wp_h487 e T N I L R) (n := 300) (n1 := 300) hm zc_487 rfl (wv_sp_ok (fun q hq => by
    rcases List.mem_cons.mp hq with h | h
    · rw [h]; exact hc349
    rw [List.mem_singleton.mp h]; exact hc358)) ?_ ?_ HR
  · exact ⟨3000 - e, e, rfl, rfl, rfl, rfl, rfl, rfl, rfl, rfl, rfl, he, h5, rfl, wp_F_id _, Nat.le_refl _, fun k a b => by omega⟩
  · intro pc P hP m lv st T1 N1 I1 L1 R1 nc ns hh
    unfold wp_h487 at hP
    split at hP
    · cases hP
      rename_i hpc
      subst hpc
      obtain ⟨p, rfl, rfl, rfl, rfl, rfl, rfl, rfl, rfl, hm, hp, i5, i8, hF, hep, hbl⟩ := hh
      have hm1 := wp_F_m hF
      refine ⟨p, congrArg (fun x => [Value.ref 460, Value.int x]) i5, by omega, wp_F_ok hF hk, ?_⟩
      rw [hm1]
      refine ⟨fun h1 => ?_, fun h1 => ?_⟩
      · have hsk : wt_sk (wt_m I) e p := ⟨hep, hbl, h1⟩
        have hF2 : wp_F I (wv_u I1 460 4 (I1 460 5)) := fun c j hc => by rw [wv_u_no _ _ (by omega)]; exact hF c j hc
        have hk2 := wp_F_ok hF2 hk
        have hm2 := wp_F_m hF2
        have j4 : wv_u I1 460 4 (I1 460 5) 460 4 = Int32.ofNat p := by rw [wv_u_at]; exact i5
        have j4a : wv_u I1 460 4 (I1 460 5) 460 4 + Int32.ofInt 1 = Int32.ofNat (p + 1) := by rw [j4]; exact wq_4s p
        have j4b : wv_u I1 460 4 (I1 460 5) 460 4 + Int32.ofInt 2 = Int32.ofNat (p + 2) := by rw [j4]; exact wi_ona p 2
        have bad : ¬ wt_rd (wt_m I) p [97, 97, 103] = true → q (.inl none) T1 N1 (wp_bad (wv_u I1 460 4 (I1 460 5) 460 4) (wv_u I1 460 4 (I1 460 5))) L1 R1 0 0 := by
          intro hr
          refine h p _ hsk hp (fun z => (hr z).elim) (fun _ => ⟨?_, ?_⟩) ?_
          · rw [wp_bad_no (by omega), wv_u_no _ _ (by omega)]; exact i5
          · rw [wp_bad_8 (by rw [wv_u_no _ _ (by omega), i8]; exact h8)]; exact j4
          · intro c j hc
            rw [wp_bad_no (by omega)]
            exact hF2 c j hc
        have rd : wt_rd (wt_m I) p [97, 97, 103] = true → wt_m I p = Int32.ofNat 97 ∧ wt_m I (p + 1) = Int32.ofNat 97 ∧ wt_m I (p + 2) = Int32.ofNat 103 := by
          intro h
          simp only [wt_rd, Bool.and_eq_true, decide_eq_true_eq, Bool.and_true] at h
          exact ⟨h.1, h.2.1, h.2.2⟩
        refine ⟨p, congrArg (fun x => [Value.ref 460, Value.int x]) j4, by omega, hk2, ?_⟩
        rw [hm2]
        refine ⟨fun y1 => ⟨_, rfl, bad (fun z => y1 (rd z).1)⟩, fun y1 => ?_⟩
        refine ⟨p + 1, congrArg (fun x => [Value.ref 460, Value.int x]) j4a, by omega, hk2, ?_⟩
        rw [hm2]
        refine ⟨fun y2 => ⟨_, rfl, bad (fun z => y2 (rd z).2.1)⟩, fun y2 => ?_⟩
        refine ⟨p + 2, congrArg (fun x => [Value.ref 460, Value.int x]) j4b, by omega, hk2, ?_⟩
        rw [hm2]
        refine ⟨fun y3 => ?_, fun y3 => ⟨_, rfl, bad (fun z => y3 (rd z).2.2)⟩⟩
        have hr : wt_rd (wt_m I) p [97, 97, 103] = true := by
          simp only [wt_rd, Bool.and_eq_true, decide_eq_true_eq, Bool.and_true]
          exact ⟨Decidable.not_not.mp y1, Decidable.not_not.mp y2, y3⟩
        refine h p _ hsk hp (fun _ => ⟨?_, ?_⟩) (fun z => (z hr).elim) ?_
        · rw [wv_u_at, j4]; exact wi_ona p 3
        · rw [wv_u_no _ _ (by omega), wv_u_no _ _ (by omega)]; exact i8
        · intro c j hc
          rw [wv_u_no _ _ (by omega)]
          exact hF2 c j hc
      · have h2 := Decidable.not_not.mp h1
        have hlt : p < 400 := wt_m_lt hk (by rw [h2]; decide)
        refine ⟨3000 - (p + 1), by omega, p + 1, rfl, rfl, rfl, rfl, rfl, rfl, rfl, rfl, rfl, by omega, ?_, ?_, ?_, by omega, ?_⟩
        · rw [wv_u_at, i5]; exact wq_4s p
        · rw [wv_u_no _ _ (by omega)]; exact i8
        · intro c j hc
          rw [wv_u_no _ _ (by omega)]
          exact hF c j hc
        · intro k a b
          by_cases hkp : k = p
          · rw [hkp]; exact h2
          · exact hbl k a (by omega)
    · cases hP
/-- the first word, as a token -/
def wp_c487b : wv_c1 := fun as T N I L R q => ∃ (ts : List wt_t) (n : Nat) (t : Nat → Int32), as = [.ref 460] ∧ wp_Y T I t n ∧ wp_Z (nm_st t n) ts n (0, none) I ∧ ∀ I1, wp_Z (nm_st t n) ts n (tk_take ts n (Int8.ofInt 39).toInt32 (0, none)) I1 → wp_F I I1 → q (.inl none) T N I1 L R 0 0
theorem wt_dg_ex (t : Nat → Int32) : ∀ f p, wt_dig t (p + f) = false → ∃ d, wt_dg t p d
  | 0, p, h => ⟨0, fun k hk => by omega, h⟩
  | f + 1, p, h => by
    by_cases hp : wt_dig t p = true
    · obtain ⟨d, h1, h2⟩ := wt_dg_ex t f (p + 1) (by rw [show p + 1 + f = p + (f + 1) by omega]; exact h)
      refine ⟨d + 1, fun k hk => ?_, by rw [show p + (d + 1) = p + 1 + d by omega]; exact h2⟩
      cases k with
      | zero => exact hp
      | succ k =>
        have := h1 k (by omega)
        rw [show p + (k + 1) = p + 1 + k by omega]
        exact this
    · exact ⟨0, fun k hk => by omega, by cases hx : wt_dig t p with
        | false => rfl
        | true => exact (hp hx).elim⟩
theorem wp_takeWordTok {sc : pt_Sc} {d : Nat} : wv_C wm_fx sc (d + 1 + 1) 487 wp_c487b := by
  refine wv_C_mono wp_takeWord ?_
  rintro as T N I L R q ⟨ts, n, t, rfl, ⟨hk, rfl, hn, ht⟩, ⟨e, h5, he, h8, hz⟩, h⟩
  refine ⟨e, rfl, hk, h5, by omega, by rw [h8]; decide, ?_⟩
  intro p I1 hs hp hy hx hF
  obtain ⟨d, hd⟩ : ∃ d, wt_dg (wt_m I) p d := wt_dg_ex _ n p (by
    unfold wt_dig
    rw [ht.1 (p + n) (by omega)]
    decide)
  obtain ⟨hpn, x, l, hxl, hxp, hcase⟩ := nm_head ht he hs hd
  rw [hxl] at hz
  obtain ⟨hta, htd⟩ := tk_drop hz
  have hnow : tk_now ts (0, none) = x.1 := by unfold tk_now; rw [hta]
  have hpl : tk_place ts n 0 = x.2.1 := by unfold tk_place; rw [hta]
  have bad : ¬ x.1 = (Int8.ofInt 39).toInt32 → tk_take ts n (Int8.ofInt 39).toInt32 (0, none) = (0, some p) := by
    intro hb
    unfold tk_take
    rw [hnow, if_neg hb]
    unfold tk_ref tk_refAt
    show (0, some (tk_place ts n 0)) = _
    rw [hpl, hxp]
  have nrd : d = d → ¬ x.1 = (Int8.ofInt 39).toInt32 → ¬ wt_rd (wt_m I) p [97, 97, 103] = true → q (.inl none) T N I1 L R 0 0 := by
    intro _ hb hr
    obtain ⟨i5, i8⟩ := hx hr
    refine h I1 ?_ hF
    rw [bad hb]
    exact ⟨i8, hp, p, i5, hp⟩
  rcases hcase with ⟨d1, d4, xk, xv, xl, xn⟩ | ⟨hd0, xk, _, xa, xb⟩
  · have hb : ¬ x.1 = (Int8.ofInt 39).toInt32 := by rw [xk]; decide
    refine nrd rfl hb (fun z => ?_)
    have h0 := hd.1 0 (by omega)
    rw [Nat.add_zero] at h0
    simp only [wt_rd, Bool.and_eq_true, decide_eq_true_eq, Bool.and_true] at z
    unfold wt_dig at h0
    rw [z.1] at h0
    exact absurd h0 (by decide)
  · by_cases hr : wt_rd (wt_m I) p [97, 97, 103] = true
    · obtain ⟨i5, i8⟩ := hy hr
      have hk9 := xa.mpr hr
      have et : tk_take ts n (Int8.ofInt 39).toInt32 (0, none) = (0 + 1, none) := by
        unfold tk_take
        rw [hnow, if_pos hk9]
        unfold tk_adv
        rw [hta]
      refine h I1 ?_ hF
      rw [et]
      obtain ⟨xl, xn⟩ := xb hr
      exact ⟨p + 3, i5, xn, by rw [i8, h8], by rw [← xl]; exact htd⟩
    · exact nrd rfl (fun z => hr (xa.mp z)) hr
