/-! ===== the reference: its text, a number within bounds ===== -/
/-- the reference's text, 0 behind its end -/
def wt_m (I : Nat → Nat → Int32) : Nat → Int32 := fun k => if (k : Int) < (I 460 2).toInt then I 461 k else 0
def wt_mok (T : wv_T) (I : Nat → Nat → Int32) : Prop := wm_T T ∧ 0 ≤ (I 460 2).toInt ∧ (I 460 2).toInt ≤ 400
def wp_c349 : wv_c1 := fun as T N I L R q => ∃ p : Nat, as = [.ref 460, .int (Int32.ofNat p)] ∧ p < 2000000000 ∧ wt_mok T I ∧ q (.inl (some (.int (wt_m I p)))) T N I L R 0 0
set_option maxRecDepth 100000 in
theorem wM_349 : ∃ cb ci np, pt_mt 349 = some (32, cb, 2, false, some .int, ci, np) := ⟨_, _, _, rfl⟩
set_option maxRecDepth 100000 in
set_option maxHeartbeats 4000000 in
theorem wp_at {sc : pt_Sc} {d : Nat} : wv_C wm_fx sc (d + 1) 349 wp_c349 := by
  rintro as T N I L R q ⟨p, rfl, hp, hk, h⟩ w HR
  obtain ⟨cb, ci, np, hm⟩ := wM_349
  refine wv_meth (hh := none) rfl (sp := fun _ _ _ _ _ _ _ _ => False) (hd := fun _ => none) (n := 0) (n1 := 300) hm zc_349 rfl (fun k as T N I L R q h => by cases h) ?_ (fun pc P h => by cases h) HR
  have ep := wi_on (n := p) (by omega)
  have en := wi_onn (n := p) (by omega)
  refine ⟨fun h2 => ?_, fun h2 => ?_⟩
  · rw [show wt_m I p = 0 from if_neg (by rw [wi_le, ep] at h2; omega)] at h
    exact h
  · have h3 : (p : Int) < (I 460 2).toInt := by rw [wi_le, ep] at h2; omega
    rw [show wt_m I p = I 461 p from if_pos h3] at h
    have hk2 := hk.2.2
    refine ⟨_, wm_t hk.1 rfl, ⟨by rw [wi_le, ep, wi_0]; omega, by rw [ep]; omega⟩, ?_⟩
    rw [en]
    exact h
/-- the first fault stands -/
def wp_bad (w : Int32) (I : Nat → Nat → Int32) : Nat → Nat → Int32 := wv_u I 460 8 (if I 460 8 < 0 then w else I 460 8)
theorem wp_bad_no {w : Int32} {I : Nat → Nat → Int32} {c j : Nat} (h : ¬ (c = 460 ∧ j = 8)) : wp_bad w I c j = I c j := wv_u_no _ _ h
theorem wp_bad_8 {w : Int32} {I : Nat → Nat → Int32} (h : I 460 8 < 0) : wp_bad w I 460 8 = w := by
  unfold wp_bad
  rw [wv_u_at, if_pos h]
def wp_c358 : wv_c1 := fun as T N I L R q => ∃ w : Int32, as = [.ref 460, .int w] ∧ q (.inl none) T N (wp_bad w I) L R 0 0
set_option maxRecDepth 100000 in
theorem wM_358 : ∃ cb ci np, pt_mt 358 = some (32, cb, 2, false, none, ci, np) := ⟨_, _, _, rfl⟩
set_option maxRecDepth 100000 in
set_option maxHeartbeats 4000000 in
theorem wp_badC {sc : pt_Sc} {d : Nat} : wv_C wm_fx sc (d + 1) 358 wp_c358 := by
  rintro as T N I L R q ⟨w, rfl, h⟩ w HR
  obtain ⟨cb, ci, np, hm⟩ := wM_358
  refine wv_meth (hh := none) rfl (sp := fun _ _ _ _ _ _ _ _ => False) (hd := fun _ => none) (n := 0) (n1 := 300) hm zc_358 rfl (fun k as T N I L R q h => by cases h) ?_ (fun pc P h => by cases h) HR
  unfold wp_bad at h
  refine ⟨fun h1 => ?_, fun h1 => ?_⟩
  · rw [if_neg (Int32.not_lt.mpr h1)] at h
    exact h
  · rw [if_pos (Int32.not_le.mp h1)] at h
    exact h
/-- what reading leaves alone: all but place, end, fault -/
def wp_F (I I1 : Nat → Nat → Int32) : Prop := ∀ c j, ¬ (c = 460 ∧ (j = 4 ∨ j = 5 ∨ j = 8)) → I1 c j = I c j
theorem wp_F_id (I : Nat → Nat → Int32) : wp_F I I := fun _ _ _ => rfl
theorem wp_F_tr {I J K : Nat → Nat → Int32} (h : wp_F I J) (h2 : wp_F J K) : wp_F I K := fun c j a => by rw [h2 c j a, h c j a]
theorem wp_F_m {I J : Nat → Nat → Int32} (h : wp_F I J) : wt_m J = wt_m I := by
  funext k
  unfold wt_m
  rw [h 460 2 (by omega), h 461 k (by omega)]
theorem wp_F_ok {T : wv_T} {I J : Nat → Nat → Int32} (h : wp_F I J) (k : wt_mok T I) : wt_mok T J := by
  unfold wt_mok at k ⊢
  rw [h 460 2 (by omega)]
  exact k
/-- from e on blanks, then p -/
def wt_sk (t : Nat → Int32) (e p : Nat) : Prop := e ≤ p ∧ (∀ k, e ≤ k → k < p → t k = (Int8.ofInt 32).toInt32) ∧ ¬ t p = (Int8.ofInt 32).toInt32
/-- d digits from p on, no more -/
def wt_dg (t : Nat → Int32) (p d : Nat) : Prop := (∀ k, k < d → wt_dig t (p + k) = true) ∧ wt_dig t (p + d) = false
theorem wt_m_lt {T : wv_T} {I : Nat → Nat → Int32} {k : Nat} (hk : wt_mok T I) (h : ¬ wt_m I k = 0) : k < 400 := by
  have h2 := hk.2.2
  by_cases hc : (k : Int) < (I 460 2).toInt
  · omega
  · exact (h (if_neg hc)).elim
def wp_h488 (lo hi : Int32) (e : Nat) (T : wv_T) (N : Nat) (I : Nat → Nat → Int32) (L : Nat → Nat → Int64) (R : Nat → Nat → Option Nat) : Nat → Option (Nat → wv_P) := fun pc =>
  if pc = 0 then some (fun m lv st T1 N1 I1 L1 R1 nc ns => ∃ p : Nat, lv = [some (.ref 460), some (.int lo), some (.int hi), none, none, none, none] ∧ st = [] ∧ T1 = T ∧ N1 = N ∧ L1 = L ∧ R1 = R ∧ nc = 0 ∧ ns = 0 ∧ m = 3000 - p ∧ p ≤ 400 ∧ I1 460 5 = Int32.ofNat p ∧ I1 460 8 = I 460 8 ∧ wp_F I I1 ∧ e ≤ p ∧ (∀ k, e ≤ k → k < p → wt_m I k = (Int8.ofInt 32).toInt32))
  else if pc = 36 then some (fun m lv st T1 N1 I1 L1 R1 nc ns => ∃ p d : Nat, lv = [some (.ref 460), some (.int lo), some (.int hi), some (.int (nm_val (wt_m I) p (min d 4))), none, none, none] ∧ st = [] ∧ T1 = T ∧ N1 = N ∧ L1 = L ∧ R1 = R ∧ nc = 0 ∧ ns = 0 ∧ m = 1000 - (p + d) ∧ p + d ≤ 400 ∧ I1 460 4 = Int32.ofNat p ∧ I1 460 5 = Int32.ofNat (p + d) ∧ I1 460 8 = I 460 8 ∧ wp_F I I1 ∧ wt_sk (wt_m I) e p ∧ ∀ k, k < d → wt_dig (wt_m I) (p + k) = true)
  else none
def wp_c488 : wv_c1 := fun as T N I L R q => ∃ (lo hi : Int32) (e : Nat), as = [.ref 460, .int lo, .int hi] ∧ wt_mok T I ∧ I 460 5 = Int32.ofNat e ∧ e ≤ 400 ∧ I 460 8 < 0 ∧ ∀ p d I1, wt_sk (wt_m I) e p → wt_dg (wt_m I) p d → p + d ≤ 400 → I1 460 4 = Int32.ofNat p → I1 460 5 = Int32.ofNat (p + d) → I1 460 8 = (if d = 0 ∨ 4 < d ∨ nm_val (wt_m I) p (min d 4) < lo ∨ hi < nm_val (wt_m I) p (min d 4) then Int32.ofNat p else I 460 8) → wp_F I I1 → q (.inl (some (.int (nm_val (wt_m I) p (min d 4))))) T N I1 L R 0 0
set_option maxRecDepth 100000 in
theorem wM_488 : ∃ cb ci np, pt_mt 488 = some (32, cb, 4, false, some .int, ci, np) := ⟨_, _, _, rfl⟩
set_option maxRecDepth 100000 in
set_option maxHeartbeats 4000000 in
theorem wp_numberWithin {sc : pt_Sc} {d : Nat} : wv_C wm_fx sc (d + 1 + 1) 488 wp_c488 := by
  rintro as T N I L R q ⟨lo, hi, e, rfl, hk, h5, he, h8, h⟩ w HR
  obtain ⟨cb, ci, np, hm⟩ := wM_488
  have hc349 : wv_C wm_fx sc (d + 1) 349 wp_c349 := wv_C_deep (by omega) (wp_at (d := d))
  have hc358 : wv_C wm_fx sc (d + 1) 358 wp_c358 := wv_C_deep (by omega) (wp_badC (d := d))
  refine wv_meth (hh := none) rfl (sp := wv_sp [(349, wp_c349), (358, wp_c358)]) (hd := wp_h488 lo hi e T N I L R) (n := 300) (n1 := 300) hm zc_488 rfl (wv_sp_ok (fun q hq => by
    rcases List.mem_cons.mp hq with h | h
    · rw [h]; exact hc349
    rw [List.mem_singleton.mp h]; exact hc358)) ?_ ?_ HR
  · exact ⟨3000 - e, e, rfl, rfl, rfl, rfl, rfl, rfl, rfl, rfl, rfl, he, h5, rfl, wp_F_id _, Nat.le_refl _, fun k a b => by omega⟩
  · intro pc P hP m lv st T1 N1 I1 L1 R1 nc ns hh
    unfold wp_h488 at hP
    split at hP
    · cases hP
      rename_i hpc
      subst hpc
      obtain ⟨p, rfl, rfl, rfl, rfl, rfl, rfl, rfl, rfl, hm, hp, i5, i8, hF, hep, hbl⟩ := hh
      have hm1 := wp_F_m hF
      refine ⟨p, congrArg (fun x => [Value.ref 460, Value.int x]) i5, by omega, wp_F_ok hF hk, ?_⟩
      rw [hm1]
      refine ⟨fun h1 => ?_, fun h1 => ?_⟩
      · refine ⟨1000 - p, by omega, p, 0, rfl, rfl, rfl, rfl, rfl, rfl, rfl, rfl, by rw [Nat.add_zero], by omega, ?_, ?_, ?_, ?_, ⟨hep, hbl, h1⟩, fun k a => by omega⟩
        · rw [wv_u_at]; exact i5
        · rw [wv_u_no _ _ (by omega)]; exact i5
        · rw [wv_u_no _ _ (by omega)]; exact i8
        · intro c j hc
          rw [wv_u_no _ _ (by omega)]
          exact hF c j hc
      · have h2 := Decidable.not_not.mp h1
        have hlt : p < 400 := wt_m_lt hk (by rw [h2]; decide)
        refine ⟨3000 - (p + 1), by omega, p + 1, rfl, rfl, rfl, rfl, rfl, rfl, rfl, rfl, rfl, by omega, ?_, ?_, ?_, by omega, ?_⟩
        · rw [wv_u_at, i5]; exact wq_4s p
        · rw [wv_u_no _ _ (by omega)]; exact i8
        · intro c j hc
          rw [wv_u_no _ _ (by omega)]
          exact hF c j hc
        · intro k a b
          by_cases hkp : k = p
          · rw [hkp]; exact h2
          · exact hbl k a (by omega)
    · split at hP
      · cases hP
        rename_i hpc0 hpc
        subst hpc
        obtain ⟨p, d, rfl, rfl, rfl, rfl, rfl, rfl, rfl, rfl, hm, hpd, i4, i5, i8, hF, hsk, hdg⟩ := hh
        have hm1 := wp_F_m hF
        have e48 : ((Int8.ofInt 48).toInt32).toInt = 48 := rfl
        have e57 : ((Int8.ofInt 57).toInt32).toInt = 57 := rfl
        have e4 : (Int32.ofInt 4).toInt = 4 := rfl
        have epd := wi_on (n := p + d) (by omega)
        have ep := wi_on (n := p) (by omega)
        have esub : (Int32.ofNat (p + d) - Int32.ofNat p).toInt = d := by rw [wi_sub, epd, ep, wr_id (by omega) (by omega)]; omega
        -- behind the digits
        have fin : wt_dig (wt_m I) (p + d) = false → (d = 0 ∨ 4 < d ∨ nm_val (wt_m I) p (min d 4) < lo ∨ hi < nm_val (wt_m I) p (min d 4) → q (.inl (some (.int (nm_val (wt_m I) p (min d 4))))) T1 N1 (wp_bad (I1 460 4) I1) L1 R1 0 0) ∧ (¬ (d = 0 ∨ 4 < d ∨ nm_val (wt_m I) p (min d 4) < lo ∨ hi < nm_val (wt_m I) p (min d 4)) → q (.inl (some (.int (nm_val (wt_m I) p (min d 4))))) T1 N1 I1 L1 R1 0 0) := by
          intro hx
          refine ⟨fun hb => ?_, fun hb => ?_⟩
          · refine h p d _ hsk ⟨hdg, hx⟩ hpd ?_ ?_ ?_ ?_
            · rw [wp_bad_no (by omega)]; exact i4
            · rw [wp_bad_no (by omega)]; exact i5
            · rw [wp_bad_8 (by rw [i8]; exact h8), if_pos hb]; exact i4
            · intro c j hc
              rw [wp_bad_no (by omega)]
              exact hF c j hc
          · exact h p d _ hsk ⟨hdg, hx⟩ hpd i4 i5 (by rw [if_neg hb]; exact i8) hF
        refine ⟨p + d, congrArg (fun x => [Value.ref 460, Value.int x]) i5, by omega, wp_F_ok hF hk, ?_⟩
        rw [hm1]
        refine ⟨fun h1 => ?_, fun h1 => ?_⟩
        · obtain ⟨x1, x2⟩ := fin (decide_eq_false (by rw [wi_lt, e48] at h1; omega))
          refine ⟨fun y1 => ?_, fun y1 => ?_⟩
          · have hd0 : d = 0 := by rw [i5, i4] at y1; have := wi_eq.mp y1; rw [epd, ep] at this; omega
            exact ⟨_, rfl, x1 (Or.inl hd0)⟩
          have hd0 : ¬ d = 0 := fun z => y1 (by rw [i5, i4, z, Nat.add_zero])
          refine ⟨fun y2 => ?_, fun y2 => ?_⟩
          · rw [i5, i4, wi_lt, esub, e4] at y2
            exact ⟨_, rfl, x1 (Or.inr (Or.inl (by omega)))⟩
          rw [i5, i4, wi_lt, esub, e4] at y2
          refine ⟨fun y3 => ⟨_, rfl, x1 (Or.inr (Or.inr (Or.inl y3)))⟩, fun y3 => ?_⟩
          refine ⟨fun y4 => ?_, fun y4 => ⟨_, rfl, x1 (Or.inr (Or.inr (Or.inr (Int32.not_le.mp y4))))⟩⟩
          exact x2 (fun z => z.elim hd0 (fun z => z.elim (fun z => by omega) (fun z => z.elim y3 (fun z => Int32.not_lt.mpr y4 z))))
        refine ⟨p + d, congrArg (fun x => [Value.ref 460, Value.int x]) i5, by omega, wp_F_ok hF hk, ?_⟩
        rw [hm1]
        refine ⟨fun h2 => ?_, fun h2 => ?_⟩
        · obtain ⟨x1, x2⟩ := fin (decide_eq_false (by rw [wi_lt, e57] at h2; omega))
          refine ⟨fun y1 => ?_, fun y1 => ?_⟩
          · have hd0 : d = 0 := by rw [i5, i4] at y1; have := wi_eq.mp y1; rw [epd, ep] at this; omega
            exact ⟨_, rfl, x1 (Or.inl hd0)⟩
          have hd0 : ¬ d = 0 := fun z => y1 (by rw [i5, i4, z, Nat.add_zero])
          refine ⟨fun y2 => ?_, fun y2 => ?_⟩
          · rw [i5, i4, wi_lt, esub, e4] at y2
            exact ⟨_, rfl, x1 (Or.inr (Or.inl (by omega)))⟩
          rw [i5, i4, wi_lt, esub, e4] at y2
          refine ⟨fun y3 => ⟨_, rfl, x1 (Or.inr (Or.inr (Or.inl y3)))⟩, fun y3 => ?_⟩
          refine ⟨fun y4 => ?_, fun y4 => ⟨_, rfl, x1 (Or.inr (Or.inr (Or.inr (Int32.not_le.mp y4))))⟩⟩
          exact x2 (fun z => z.elim hd0 (fun z => z.elim (fun z => by omega) (fun z => z.elim y3 (fun z => Int32.not_lt.mpr y4 z))))
        · rw [wi_lt, e48] at h1
          rw [wi_lt, e57] at h2
          have hd : wt_dig (wt_m I) (p + d) = true := decide_eq_true (by omega)
          have hlt : p + d < 400 := wt_m_lt hk (by
            intro z
            rw [z] at h1
            exact h1 (by decide))
          have go : ∀ v, v = nm_val (wt_m I) p (min (d + 1) 4) → ∃ m1, m1 < m ∧ ∃ p1 d1 : Nat, [some (Value.ref 460), some (.int lo), some (.int hi), some (.int v), none, none, none] = [some (.ref 460), some (.int lo), some (.int hi), some (.int (nm_val (wt_m I) p1 (min d1 4))), none, none, none] ∧ ([] : List Value) = [] ∧ T1 = T1 ∧ N1 = N1 ∧ L1 = L1 ∧ R1 = R1 ∧ 0 = 0 ∧ 0 = 0 ∧ m1 = 1000 - (p1 + d1) ∧ p1 + d1 ≤ 400 ∧ wv_u I1 460 5 (I1 460 5 + Int32.ofInt 1) 460 4 = Int32.ofNat p1 ∧ wv_u I1 460 5 (I1 460 5 + Int32.ofInt 1) 460 5 = Int32.ofNat (p1 + d1) ∧ wv_u I1 460 5 (I1 460 5 + Int32.ofInt 1) 460 8 = I 460 8 ∧ wp_F I (wv_u I1 460 5 (I1 460 5 + Int32.ofInt 1)) ∧ wt_sk (wt_m I) e p1 ∧ ∀ k, k < d1 → wt_dig (wt_m I) (p1 + k) = true := by
            intro v hv
            refine ⟨1000 - (p + (d + 1)), by omega, p, d + 1, by rw [hv], rfl, rfl, rfl, rfl, rfl, rfl, rfl, rfl, by omega, ?_, ?_, ?_, ?_, hsk, ?_⟩
            · rw [wv_u_no _ _ (by omega)]; exact i4
            · rw [wv_u_at, i5]; exact wq_4s (p + d)
            · rw [wv_u_no _ _ (by omega)]; exact i8
            · intro c j hc
              rw [wv_u_no _ _ (by omega)]
              exact hF c j hc
            · intro k a
              by_cases hkd : k = d
              · rw [hkd]; exact hd
              · exact hdg k (by omega)
          refine ⟨fun h3 => ?_, fun h3 => ?_⟩
          · rw [i5, i4, wi_le, esub, e4] at h3
            exact go _ (by rw [show min (d + 1) 4 = 4 by omega, show min d 4 = 4 by omega])
          · rw [i5, i4, wi_le, esub, e4] at h3
            refine ⟨p + d, congrArg (fun x => [Value.ref 460, Value.int x]) i5, by omega, wp_F_ok hF hk, ?_⟩
            rw [hm1]
            refine go _ ?_
            rw [show min (d + 1) 4 = d + 1 by omega, show min d 4 = d by omega]
            rfl
      · cases hP
