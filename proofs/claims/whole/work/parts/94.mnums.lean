/-! ===== the reference: readNumbers ===== -/
theorem nm_run_k (t : Nat → Int32) : ∀ r p k, k < nm_run t p r → wt_dig t (p + k) = true
  | 0, p, k, h => by
    have h : k < 0 := h
    omega
  | r + 1, p, k, h => by
    have h : k < (if wt_dig t p = true then nm_run t (p + 1) r + 1 else 0) := h
    split at h
    · rename_i hd
      cases k with
      | zero => exact hd
      | succ k =>
        have := nm_run_k t r (p + 1) k (by omega)
        rw [show p + (k + 1) = p + 1 + k by omega]
        exact this
    · omega
theorem nm_val_b (t : Nat → Int32) (p : Nat) : ∀ k, k ≤ 4 → (∀ j, j < k → wt_dig t (p + j) = true) → 0 ≤ (nm_val t p k).toInt ∧ (nm_val t p k).toInt < 10 ^ k
  | 0, _, _ => by
    show 0 ≤ (Int32.ofInt 0).toInt ∧ (Int32.ofInt 0).toInt < 1
    decide
  | k + 1, hk, h => by
    obtain ⟨h1, h2⟩ := nm_val_b t p k (by omega) (fun j hj => h j (by omega))
    have hd := h k (by omega)
    unfold wt_dig at hd
    have hd := of_decide_eq_true hd
    have hp : (10 : Int) ^ k ≤ 1000 := by
      have : k = 0 ∨ k = 1 ∨ k = 2 ∨ k = 3 := by omega
      rcases this with e | e | e | e <;> rw [e] <;> decide
    have e10 : ((Int8.ofInt 10).toInt32).toInt = 10 := rfl
    have e48 : ((Int8.ofInt 48).toInt32).toInt = 48 := rfl
    have s1 : ((Int8.ofInt 10).toInt32 * nm_val t p k).toInt = 10 * (nm_val t p k).toInt := by rw [wi_mul, e10, wr_id (by omega) (by omega)]
    have s2 : ((Int8.ofInt 10).toInt32 * nm_val t p k + t (p + k)).toInt = 10 * (nm_val t p k).toInt + (t (p + k)).toInt := by rw [wi_add, s1, wr_id (by omega) (by omega)]
    have s3 : (nm_val t p (k + 1)).toInt = 10 * (nm_val t p k).toInt + (t (p + k)).toInt - 48 := by
      show ((Int8.ofInt 10).toInt32 * nm_val t p k + t (p + k) - (Int8.ofInt 48).toInt32).toInt = _
      rw [wi_sub, s2, e48, wr_id (by omega) (by omega)]
    rw [s3, Int.pow_succ]
    omega
theorem tk_now_at {ts : List wt_t} {s : wt_q} {x : wt_t} (hs : s.2 = none) (h : ts[s.1]? = some x) : tk_now ts s = x.1 := by
  unfold tk_now
  rw [hs, h]
theorem tk_adv_at {ts : List wt_t} {s : wt_q} {x : wt_t} (hs : s.2 = none) (h : ts[s.1]? = some x) : tk_adv ts s = (s.1 + 1, none) := by
  unfold tk_adv
  rw [hs, h]
theorem tk_place_at {ts : List wt_t} {n a : Nat} {x : wt_t} (h : ts[a]? = some x) : tk_place ts n a = x.2.1 := by
  unfold tk_place
  rw [h]
/-- no token's number is below 0 -/
theorem nm_low {t : Nat → Int32} {n : Nat} : ∀ f p x, x ∈ wt_lex (nm_st t n) n f p → 0 ≤ x.2.2.1.toInt
  | 0, p, x, h => by
    have h : x ∈ [wt_E n] := h
    rw [List.mem_singleton.mp h]
    show 0 ≤ (Int32.ofInt 0).toInt
    decide
  | f + 1, p, x, h => by
    unfold wt_lex at h
    split at h
    · have h2 : ∀ y p2, nm_st t n p = (some y, p2) → 0 ≤ y.2.2.1.toInt := by
        intro y p2 hy
        unfold nm_st at hy
        split at hy
        · cases hy
        · split at hy
          · cases hy
            show 0 ≤ (Int32.ofInt 0).toInt
            decide
          · split at hy
            · rename_i hr
              cases hy
              exact (nm_val_b t p _ hr.2 (fun j hj => nm_run_k t 5 p j hj)).1
            · cases hy
              show 0 ≤ (Int32.ofInt 0).toInt
              decide
      cases hst : nm_st t n p with
      | mk o p2 =>
        rw [hst] at h
        cases o with
        | none => exact nm_low f p2 x h
        | some y =>
          rcases List.mem_cons.mp h with e | e
          · rw [e]; exact h2 y p2 hst
          · exact nm_low f p2 x e
    · have h : x ∈ [wt_E n] := h
      rw [List.mem_singleton.mp h]
      show 0 ≤ (Int32.ofInt 0).toInt
      decide
theorem tk_low_b {t : Nat → Int32} {n a : Nat} : 0 ≤ (tk_low (wt_lex (nm_st t n) n 400 0) a).toInt := by
  unfold tk_low
  split
  · rename_i x hx
    exact nm_low 400 0 x (List.mem_of_getElem? hx)
  · decide
/-- out of bounds: a fault at the token's place -/
theorem nm_rd_out {ts : List wt_t} {n : Nat} {lo hi : Int32} {s : wt_q} (hs : s.2 = none) (h : tk_low ts s.1 < lo ∨ hi < tk_low ts s.1) : (nm_rd ts n lo hi s).2 = tk_ref ts n s := by
  unfold nm_rd
  show tk_take ts n (Int8.ofInt 40).toInt32 (if tk_low ts s.1 < lo ∨ hi < tk_low ts s.1 then tk_ref ts n s else s) = _
  rw [if_pos h]
  have e : (tk_ref ts n s).2 = some (tk_place ts n s.1) := by
    unfold tk_ref tk_refAt
    rw [hs]
  exact tk_take_some e (by decide)
/-- what the reference's readNumbers leaves alone -/
def wp_HF (I I1 : Nat → Nat → Int32) : Prop := ∀ c j, ¬ (c = 460 ∧ (j = 0 ∨ j = 4 ∨ j = 5 ∨ j = 8 ∨ j = 101 ∨ j = 102 ∨ j = 103)) → ¬ (530 ≤ c ∧ c ≤ 534) → I1 c j = I c j
theorem wp_HF_tr {I J K : Nat → Nat → Int32} (h : wp_HF I J) (h2 : wp_HF J K) : wp_HF I K := fun c j a b => by rw [h2 c j a b, h c j a b]
theorem wp_HF_G {I J : Nat → Nat → Int32} (h : wp_G I J) : wp_HF I J := fun c j a b => h c j (by omega) b
theorem wp_HF_F {I J : Nat → Nat → Int32} (h : wp_F I J) : wp_HF I J := fun c j a _ => h c j (by omega)
theorem wp_HF_u {I : Nat → Nat → Int32} {k : Nat} {x : Int32} (h : k = 0 ∨ k = 4 ∨ k = 5 ∨ k = 8 ∨ k = 101 ∨ k = 102 ∨ k = 103) : wp_HF I (wv_u I 460 k x) := fun c j a _ => wv_u_no _ _ (fun z => a ⟨z.1, by rw [z.2]; exact h⟩)
theorem wp_Y_H {T : wv_T} {I J : Nat → Nat → Int32} {t : Nat → Int32} {n : Nat} (h : wp_Y T I t n) (hF : wp_HF I J) : wp_Y T J t n := by
  have h2 : J 460 2 = I 460 2 := hF 460 2 (by omega) (by omega)
  have hm : wt_m J = wt_m I := by
    funext k
    unfold wt_m
    rw [h2, hF 461 k (by omega) (by omega)]
  refine ⟨?_, by rw [hm]; exact h.2.1, h.2.2⟩
  have := h.1
  unfold wt_mok at this ⊢
  rw [h2]
  exact this
/-- a fault is told -/
def wp_W (ft : Option Nat) (I1 : Nat → Nat → Int32) : Prop := ∃ z, I1 460 8 = Int32.ofNat z ∧ z ≤ 400 ∧ ft = some z ∧ ∃ e, I1 460 5 = Int32.ofNat e ∧ e ≤ 400
theorem wp_W_8 {ft : Option Nat} {I1 : Nat → Nat → Int32} (h : wp_W ft I1) : 0 ≤ I1 460 8 := by
  obtain ⟨z, h8, hz, _⟩ := h
  rw [h8, wi_le, wi_0, wi_on (by omega)]
  omega
theorem wp_W_u {ft : Option Nat} {I J : Nat → Nat → Int32} (h : wp_W ft I) (h5 : J 460 5 = I 460 5) (h8 : J 460 8 = I 460 8) : wp_W ft J := by
  unfold wp_W at h ⊢
  rw [h5, h8]
  exact h
theorem wp_W_of {st : Nat → Option wt_t × Nat} {ts : List wt_t} {n : Nat} {s : wt_q} {I1 : Nat → Nat → Int32} {z : Nat} {ft : Option Nat} (h : wp_Z st ts n s I1) (hs : s.2 = some z) (hE : ft = some z) : wp_W ft I1 := by
  unfold wp_Z at h
  rw [hs] at h
  exact ⟨z, h.1, h.2.1, hE, h.2.2⟩
/-- on, with the tokens or with a fault -/
theorem wp_nw {st : Nat → Option wt_t × Nat} {ts : List wt_t} {n : Nat} {s : wt_q} {I1 : Nat → Nat → Int32} {P : Prop} {ft : Option Nat} (h : wp_Z st ts n s I1) (hE : ∀ z, s.2 = some z → ft = some z) (hP : s.2 = none → P) : (s.2 = none ∧ wp_Z st ts n s I1 ∧ P) ∨ wp_W ft I1 := by
  cases hs : s.2 with
  | none => exact Or.inl ⟨rfl, h, hP hs⟩
  | some z => exact Or.inr (wp_W_of h hs (hE z hs))
def wp_l486 (x1 x2 : Option Value) : List (Option Value) := [some (.ref 460), x1, x2, none]
def wp_h486 (t : Nat → Int32) (ts : List wt_t) (n : Nat) (r1 r2 r3 r4 r6 : Int32 × wt_q) (A B G : Nat) (ft : Option Nat) (T : wv_T) (N : Nat) (I : Nat → Nat → Int32) (L : Nat → Nat → Int64) (R : Nat → Nat → Option Nat) : Nat → Option (Nat → wv_P) := fun pc =>
  if pc = 38 then some (fun m lv st T1 N1 I1 L1 R1 nc ns => ∃ (x1 : Int32), lv = wp_l486 (some (.int x1)) none ∧ st = [] ∧ T1 = T ∧ N1 = N ∧ L1 = L ∧ R1 = R ∧ nc = 0 ∧ ns = 0 ∧ m = 5000 ∧ wp_HF I I1 ∧ I1 460 0 = Int32.ofInt 0 ∧ ((r1.2.2 = none ∧ wp_Z (nm_st t n) ts n r1.2 I1 ∧ x1 = r1.1) ∨ wp_W ft I1))
  else if pc = 59 then some (fun m lv st T1 N1 I1 L1 R1 nc ns => ∃ (x1 : Int32), lv = wp_l486 (some (.int x1)) none ∧ st = [] ∧ T1 = T ∧ N1 = N ∧ L1 = L ∧ R1 = R ∧ nc = 0 ∧ ns = 0 ∧ m = 4900 ∧ wp_HF I I1 ∧ I1 460 0 = Int32.ofInt 0 ∧ ((r2.2.2 = none ∧ wp_Z (nm_st t n) ts n r2.2 I1 ∧ x1 = r1.1 ∧ I1 460 101 = r2.1) ∨ wp_W ft I1))
  else if pc = 80 then some (fun m lv st T1 N1 I1 L1 R1 nc ns => ∃ (x1 : Int32), lv = wp_l486 (some (.int x1)) none ∧ st = [] ∧ T1 = T ∧ N1 = N ∧ L1 = L ∧ R1 = R ∧ nc = 0 ∧ ns = 0 ∧ m = 4800 ∧ wp_HF I I1 ∧ I1 460 0 = Int32.ofInt 0 ∧ ((r3.2.2 = none ∧ wp_Z (nm_st t n) ts n r3.2 I1 ∧ x1 = r1.1 ∧ I1 460 101 = r2.1 ∧ I1 460 102 = r3.1) ∨ wp_W ft I1))
  else if pc = 96 then some (fun m lv st T1 N1 I1 L1 R1 nc ns => ∃ (x1 : Int32), lv = wp_l486 (some (.int x1)) none ∧ st = [] ∧ T1 = T ∧ N1 = N ∧ L1 = L ∧ R1 = R ∧ nc = 0 ∧ ns = 0 ∧ m = 4700 ∧ wp_HF I I1 ∧ I1 460 0 = Int32.ofInt 0 ∧ ((r4.2.2 = none ∧ wp_Z (nm_st t n) ts n r4.2 I1 ∧ x1 = r1.1 ∧ I1 460 101 = r2.1 ∧ I1 460 102 = r3.1) ∨ wp_W ft I1))
  else if pc = 139 then some (fun m lv st T1 N1 I1 L1 R1 nc ns => ∃ (x1 : Int32) (x2 : Int32), lv = wp_l486 (some (.int x1)) (some (.int x2)) ∧ st = [] ∧ T1 = T ∧ N1 = N ∧ L1 = L ∧ R1 = R ∧ nc = 0 ∧ ns = 0 ∧ m = 4600 ∧ wp_HF I I1 ∧ I1 460 0 = Int32.ofInt 0 ∧ ((r6.2.2 = none ∧ wp_Z (nm_st t n) ts n r6.2 I1 ∧ x1 = r1.1 ∧ I1 460 101 = r2.1 ∧ I1 460 102 = r3.1 ∧ I1 460 103 = Int32.ofNat G) ∨ wp_W ft I1))
  else if pc = 151 then some (fun m lv st T1 N1 I1 L1 R1 nc ns => ∃ (x1 x2 : Int32) (p : Nat), lv = wp_l486 (some (.int x1)) (some (.int x2)) ∧ st = [] ∧ T1 = T ∧ N1 = N ∧ L1 = L ∧ R1 = R ∧ nc = 0 ∧ ns = 0 ∧ m = 1000 - p ∧ p ≤ 400 ∧ I1 460 5 = Int32.ofNat p ∧ wp_HF I I1 ∧ I1 460 0 = Int32.ofInt 0 ∧ (((nmDk ts n A B G r6.2 G).2 = none ∧ r6.2.2 = none ∧ (∃ e, e ≤ p ∧ e ≤ n ∧ (∀ k, e ≤ k → k < p → t k = (Int8.ofInt 32).toInt32) ∧ ts.drop (nmDk ts n A B G r6.2 G).1 = wt_lx (nm_st t n) n e) ∧ I1 460 8 = Int32.ofInt (-1) ∧ wm_V ts n A B G r6.2 I1 G G B B 6 ∧ I1 460 101 = r2.1 ∧ I1 460 102 = r3.1 ∧ I1 460 103 = Int32.ofNat G) ∨ wp_W ft I1))
  else none
/-- the reference's design is the text's -/
def wm_D (ts : List wt_t) (n : Nat) (I1 : Nat → Nat → Int32) : Prop := (nmh6 ts n).2.2 = none ∧ nmHA ts n ≤ 3 ∧ nmHB ts n ≤ 5 ∧ nmHG ts n ≤ 60 ∧ I1 460 56 = Int32.ofNat (nmHA ts n) ∧ I1 460 57 = Int32.ofNat (nmHB ts n) ∧ I1 460 58 = Int32.ofNat (nmHG ts n) ∧ I1 460 66 = Int32.ofInt 0 ∧ (∀ j, j < nmHG ts n → I1 496 j = nm_on ts n (Int32.ofNat (nmHA ts n)) (Int32.ofNat (nmHB ts n)) (nmCk ts n (nmHA ts n) (nmHB ts n) (nmHG ts n) (nmh6 ts n).2 6) j ∧ I1 497 j = nm_tw ts n (Int32.ofNat (nmHA ts n)) (Int32.ofNat (nmHB ts n)) (nmCk ts n (nmHA ts n) (nmHB ts n) (nmHG ts n) (nmh6 ts n).2 6) j) ∧ (∀ j, j < nmHB ts n → I1 498 j = nm_nx ts n (Int32.ofNat (nmHA ts n)) (nmGr (nmHA ts n) (nmHB ts n) (nmHG ts n)) (nmA ts n (nmHA ts n) (nmh6 ts n).2) j ∧ I1 499 j = nm_fi ts n (Int32.ofNat (nmHA ts n)) (nmGr (nmHA ts n) (nmHB ts n) (nmHG ts n)) (nmA ts n (nmHA ts n) (nmh6 ts n).2) j) ∧ ∀ j, j < 6 → I1 500 j = nm_sg ts n (nmGr (nmHA ts n) (nmHB ts n) (nmHG ts n)) (nmBk ts n (nmHA ts n) (nmHB ts n) (nmHG ts n) (nmh6 ts n).2 (nmHB ts n)) j
def wp_c486 : wv_c1 := fun as T N I L R q => ∃ (t : Nat → Int32) (n : Nat) (ts : List wt_t), as = [.ref 460] ∧ wm_T T ∧ wp_Y T I t n ∧ ts = wt_lex (nm_st t n) n 400 0 ∧ ∀ I1, (∀ c j, ¬ (c = 460 ∧ (j = 0 ∨ j = 2 ∨ j = 4 ∨ j = 5 ∨ j = 8 ∨ j = 101 ∨ j = 102 ∨ j = 103 ∨ j = 56 ∨ j = 57 ∨ j = 58 ∨ j = 66)) → ¬ (496 ≤ c ∧ c ≤ 500) → ¬ (530 ≤ c ∧ c ≤ 534) → I1 c j = I c j) → I1 460 0 = Int32.ofInt 0 → I1 460 2 = Int32.ofInt 0 → (nmFault ts n = none → wm_D ts n I1) → (¬ nmFault ts n = none → ∀ c j, (c = 460 ∧ (j = 56 ∨ j = 57 ∨ j = 58 ∨ j = 66) ∨ (496 ≤ c ∧ c ≤ 500)) → ¬ (c = 460 ∧ j = 2) → I1 c j = I c j) → q (.inl (some (.int (wt_f (nmFault ts n))))) T N I1 L R 0 0
set_option maxRecDepth 100000 in
theorem wM_486 : ∃ cb ci np, pt_mt 486 = some (32, cb, 3, false, some .int, ci, np) := ⟨_, _, _, rfl⟩
set_option maxRecDepth 100000 in
set_option maxHeartbeats 2000000 in
theorem wp_readNumbers {sc : pt_Sc} {d : Nat} : wv_C wm_fx sc (d + 1 + 1 + 1 + 1) 486 wp_c486 := by
  rintro as T N I L R q ⟨t, n, ts, rfl, hT, hY, hts, hq0⟩ w0 HR
  obtain ⟨cb, ci, np, hm⟩ := wM_486
  have hlowb : ∀ a, 0 ≤ (tk_low ts a).toInt := fun a => by rw [hts]; exact tk_low_b
  have hts0 : ts = wt_lx (nm_st t n) n 0 := by
    rw [hts]
    have := hY.2.2.1
    exact wt_lex_f nm_pg 400 (n - 0) 0 (by omega) (by omega)
  have hF0 : wp_HF I (wv_u (wv_u (wv_u I 460 0 (Int32.ofInt 0)) 460 8 (Int32.ofInt (-1))) 460 5 (Int32.ofInt 0)) := wp_HF_tr (wp_HF_tr (wp_HF_u (by omega)) (wp_HF_u (by omega))) (wp_HF_u (by omega))
  have hYa := wp_Y_H hY hF0
  obtain ⟨ft, hft⟩ : ∃ f, nmFault ts n = f := ⟨_, rfl⟩
  obtain ⟨A, hA⟩ : ∃ A, nmHA ts n = A := ⟨_, rfl⟩
  obtain ⟨B, hB⟩ : ∃ A, nmHB ts n = A := ⟨_, rfl⟩
  obtain ⟨G, hG⟩ : ∃ A, nmHG ts n = A := ⟨_, rfl⟩
  obtain ⟨s0, hs0⟩ : ∃ s, tk_take ts n (Int8.ofInt 39).toInt32 (0, none) = s := ⟨_, rfl⟩
  obtain ⟨r1, hr1⟩ : ∃ r, nm_rd ts n (Int32.ofInt 1) (Int8.ofInt 68).toInt32 s0 = r := ⟨_, rfl⟩
  obtain ⟨r2, hr2⟩ : ∃ r, nm_rd ts n (Int32.ofInt 1) (Int32.ofInt 3) r1.2 = r := ⟨_, rfl⟩
  obtain ⟨r3, hr3⟩ : ∃ r, nm_rd ts n (Int32.ofInt 0) (Int32.ofInt 5) r2.2 = r := ⟨_, rfl⟩
  obtain ⟨r4, hr4⟩ : ∃ r, nm_rd ts n (Int8.ofInt 6).toInt32 (Int8.ofInt 6).toInt32 r3.2 = r := ⟨_, rfl⟩
  obtain ⟨s5, hs5⟩ : ∃ s, (if r1.1 - r2.1 - r3.1 < 0 ∨ (Int8.ofInt 60).toInt32 < r1.1 - r2.1 - r3.1 then tk_ref ts n r4.2 else r4.2) = s := ⟨_, rfl⟩
  obtain ⟨r6, hr6⟩ : ∃ r, nm_rd ts n (r1.1 - r2.1 - r3.1) (r1.1 - r2.1 - r3.1) s5 = r := ⟨_, rfl⟩
  have q0 : nmh0 ts n = s0 := hs0
  have q1 : nmh1 ts n = r1 := by unfold nmh1; rw [q0]; exact hr1
  have q2 : nmh2 ts n = r2 := by unfold nmh2; rw [q1]; exact hr2
  have q3 : nmh3 ts n = r3 := by unfold nmh3; rw [q2]; exact hr3
  have q4 : nmh4 ts n = r4 := by unfold nmh4; rw [q3]; exact hr4
  have qg : nmhg ts n = r1.1 - r2.1 - r3.1 := by unfold nmhg; rw [q1, q2, q3]
  have q5 : nmh5 ts n = s5 := by unfold nmh5; rw [qg, q4]; exact hs5
  have q6 : nmh6 ts n = r6 := by unfold nmh6; rw [qg, q5]; exact hr6
  have hE6 : ∀ z, r6.2.2 = some z → ft = some z := fun z hz => by
    rw [← hft]
    unfold nmFault
    rw [q6, hz]
    rfl
  have hE5 : ∀ z, s5.2 = some z → ft = some z := fun z hz => hE6 z (by rw [← hr6]; exact nm_rd_some hz)
  have hE4 : ∀ z, r4.2.2 = some z → ft = some z := fun z hz => hE5 z (by
    rw [← hs5, tk_ref_some hz]
    split <;> exact hz)
  have hE3 : ∀ z, r3.2.2 = some z → ft = some z := fun z hz => hE4 z (by rw [← hr4]; exact nm_rd_some hz)
  have hE2 : ∀ z, r2.2.2 = some z → ft = some z := fun z hz => hE3 z (by rw [← hr3]; exact nm_rd_some hz)
  have hE1 : ∀ z, r1.2.2 = some z → ft = some z := fun z hz => hE2 z (by rw [← hr2]; exact nm_rd_some hz)
  have hE0 : ∀ z, s0.2 = some z → ft = some z := fun z hz => hE1 z (by rw [← hr1]; exact nm_rd_some hz)
  have hb6 : r6.2.2 = none → A ≤ 3 ∧ B ≤ 5 ∧ G ≤ 60 ∧ r2.1 = Int32.ofNat A ∧ r3.1 = Int32.ofNat B ∧ r1.1 = Int32.ofNat A + Int32.ofNat B + Int32.ofNat G := fun hz => by
    obtain ⟨b1, b2, b3, b4, b5, b6, b7⟩ := nmh_b (ts := ts) (n := n) (by rw [q6]; exact hz)
    rw [q2, hA] at b5
    rw [q3, hB] at b6
    rw [qg, hG] at b7
    rw [hA] at b2
    rw [hB] at b3
    rw [hG] at b4
    refine ⟨b2, b3, b4, b5, b6, ?_⟩
    rw [← b5, ← b6, ← b7]
    apply wi_eq.mpr
    rw [wi_add, wi_add, wi_sub, wi_sub]
    have x1 := wi_b r1.1
    have x2 := wi_b r2.1
    have x3 := wi_b r3.1
    unfold wr
    omega
  have hG6 : r6.2.2 = none → r6.1 = Int32.ofNat G := fun hz => by
    obtain ⟨b1, b2, b3, b4, b5, b6, b7⟩ := nmh_b (ts := ts) (n := n) (by rw [q6]; exact hz)
    have h9 := nm_rd_in (ts := ts) (n := n) (lo := r1.1 - r2.1 - r3.1) (hi := r1.1 - r2.1 - r3.1) (s := s5) (by rw [hr6]; exact hz)
    rw [hr6] at h9
    rw [qg, hG] at b7
    rw [← b7]
    exact wi_eq.mpr (by omega)
  have hftE : r6.2.2 = none → ft = (nmE ts n A B G r6.2).2 := fun hz => by
    rw [← hft]
    unfold nmFault nmHE
    rw [q6, hz, hA, hB, hG]
    rfl
  have hq : ∀ I1, (∀ c j, ¬ (c = 460 ∧ (j = 0 ∨ j = 2 ∨ j = 4 ∨ j = 5 ∨ j = 8 ∨ j = 101 ∨ j = 102 ∨ j = 103 ∨ j = 56 ∨ j = 57 ∨ j = 58 ∨ j = 66)) → ¬ (496 ≤ c ∧ c ≤ 500) → ¬ (530 ≤ c ∧ c ≤ 534) → I1 c j = I c j) → I1 460 0 = Int32.ofInt 0 → I1 460 2 = Int32.ofInt 0 → (ft = none → r6.2.2 = none ∧ A ≤ 3 ∧ B ≤ 5 ∧ G ≤ 60 ∧ I1 460 56 = Int32.ofNat A ∧ I1 460 57 = Int32.ofNat B ∧ I1 460 58 = Int32.ofNat G ∧ I1 460 66 = Int32.ofInt 0 ∧ (∀ j, j < G → I1 496 j = nm_on ts n (Int32.ofNat A) (Int32.ofNat B) (nmCk ts n A B G r6.2 6) j ∧ I1 497 j = nm_tw ts n (Int32.ofNat A) (Int32.ofNat B) (nmCk ts n A B G r6.2 6) j) ∧ (∀ j, j < B → I1 498 j = nm_nx ts n (Int32.ofNat A) (nmGr A B G) (nmA ts n A r6.2) j ∧ I1 499 j = nm_fi ts n (Int32.ofNat A) (nmGr A B G) (nmA ts n A r6.2) j) ∧ ∀ j, j < 6 → I1 500 j = nm_sg ts n (nmGr A B G) (nmBk ts n A B G r6.2 B) j) → (¬ ft = none → ∀ c j, (c = 460 ∧ (j = 56 ∨ j = 57 ∨ j = 58 ∨ j = 66) ∨ (496 ≤ c ∧ c ≤ 500)) → ¬ (c = 460 ∧ j = 2) → I1 c j = I c j) → q (.inl (some (.int (wt_f ft)))) T N I1 L R 0 0 := by
    intro I1 a1 a2 a3 a4 a5
    rw [← hft] at a4 a5 ⊢
    refine hq0 I1 a1 a2 a3 (fun z => ?_) a5
    have a6 := a4 z
    unfold wm_D
    rw [q6, hA, hB, hG]
    exact a6
  clear hq0 q0 q1 q2 q3 q4 qg q5 q6 hA hB hG hft hts
  have hc487 : wv_C wm_fx sc (d + 1 + 1 + 1) 487 wp_c487b := wv_C_deep (by omega) (wp_takeWordTok (d := d))
  have hc488 : wv_C wm_fx sc (d + 1 + 1 + 1) 488 wp_c488b := wv_C_deep (by omega) (wp_numberTok (d := d))
  have hc489 : wv_C wm_fx sc (d + 1 + 1 + 1) 489 wp_c489 := wv_C_deep (by omega) (wp_readRest (d := d))
  have hc349 : wv_C wm_fx sc (d + 1 + 1 + 1) 349 wp_c349 := wv_C_deep (by omega) (wp_at (d := d))
  have hc358 : wv_C wm_fx sc (d + 1 + 1 + 1) 358 wp_c358 := wv_C_deep (by omega) (wp_badC (d := d))
  have hc485 : wv_C wm_fx sc (d + 1 + 1 + 1) 485 wp_c485 := wv_C_deep (by omega) (wp_takeDesign (d := d))
  refine wv_meth (hh := none) rfl (sp := wv_sp [(487, wp_c487b), (488, wp_c488b), (489, wp_c489), (349, wp_c349), (358, wp_c358), (485, wp_c485)]) (hd := wp_h486 t ts n r1 r2 r3 r4 r6 A B G ft T N I L R) (n := 400) (n1 := 300) hm zc_486 rfl (wv_sp_ok (fun q hq => by
    rcases List.mem_cons.mp hq with h | h
    · rw [h]; exact hc487
    rcases List.mem_cons.mp h with h | h
    · rw [h]; exact hc488
    rcases List.mem_cons.mp h with h | h
    · rw [h]; exact hc489
    rcases List.mem_cons.mp h with h | h
    · rw [h]; exact hc349
    rcases List.mem_cons.mp h with h | h
    · rw [h]; exact hc358
    rw [List.mem_singleton.mp h]; exact hc485)) ?_ ?_ HR
  · refine ⟨ts, n, t, rfl, hYa, ⟨0, by rw [wv_u_at]; rfl, Nat.zero_le _, by rw [wv_u_no _ _ (by omega), wv_u_at], by rw [List.drop_zero, hts0]⟩, fun I2 z2 f2 => ?_⟩
    have hFa : wp_HF I I2 := wp_HF_tr hF0 (wp_HF_F f2)
    have h02 : I2 460 0 = Int32.ofInt 0 := by rw [f2 _ _ (by omega), wv_u_no _ _ (by omega), wv_u_no _ _ (by omega), wv_u_at]
    rw [hs0] at z2
    cases hs : s0.2 with
    | some z =>
      have W := wp_W_of z2 hs (hE0 z hs)
      refine ⟨fun _ => ?_, fun z => (z (wp_W_8 W)).elim⟩
      exact ⟨5000, _, rfl, rfl, rfl, rfl, rfl, rfl, rfl, rfl, rfl, hFa, h02, Or.inr W⟩
    | none =>
      refine ⟨fun z => (wp_Z_8 z2 hs z).elim, fun _ => ?_⟩
      refine ⟨_, _, ts, n, s0.1, t, rfl, wp_Y_H hY hFa, wp_Z_s z2 hs, fun v I3 z3 hv f3 => ?_⟩
      rw [wp_Zs hs, hr1] at z3 hv
      exact ⟨5000, _, rfl, rfl, rfl, rfl, rfl, rfl, rfl, rfl, rfl, wp_HF_tr hFa (wp_HF_F f3), by rw [f3 _ _ (by omega)]; exact h02, wp_nw z3 hE1 (fun hz => hv hz)⟩
  · intro pc P hP m lv st T1 N1 I1 L1 R1 nc ns hh
    unfold wp_h486 at hP
    split at hP
    · cases hP
      rename_i hpc
      subst hpc
      obtain ⟨x1, rfl, rfl, rfl, rfl, rfl, rfl, rfl, rfl, hm, hF, h00, hcs⟩ := hh
      have hY1 := wp_Y_H hY hF
      rcases hcs with ⟨hn0, hZ, hx1⟩ | hW
      · refine ⟨fun z => (wp_Z_8 hZ hn0 z).elim, fun _ => ?_⟩
        refine ⟨_, _, ts, n, r1.2.1, t, rfl, hY1, wp_Z_s hZ hn0, fun v I2 z2 hv f2 => ?_⟩
        rw [wp_Zs hn0, hr2] at z2 hv
        refine ⟨4900, by omega, x1, rfl, rfl, rfl, rfl, rfl, rfl, rfl, rfl, rfl, wp_HF_tr (wp_HF_tr hF (wp_HF_F f2)) (wp_HF_u (by omega)), by rw [wv_u_no _ _ (by omega), f2 _ _ (by omega)]; exact h00, ?_⟩
        exact wp_nw (wp_Z_u z2 (by rw [wv_u_no _ _ (by omega)]) (by rw [wv_u_no _ _ (by omega)])) hE2 (fun hz => ⟨hx1, by rw [wv_u_at]; exact hv hz⟩)
      · refine ⟨fun _ => ?_, fun z => (z (wp_W_8 hW)).elim⟩
        exact ⟨4900, by omega, x1, rfl, rfl, rfl, rfl, rfl, rfl, rfl, rfl, rfl, wp_HF_tr hF (wp_HF_u (by omega)), by rw [wv_u_no _ _ (by omega)]; exact h00, Or.inr (wp_W_u hW (by rw [wv_u_no _ _ (by omega)]) (by rw [wv_u_no _ _ (by omega)]))⟩
    · split at hP
      · cases hP
        rename_i y0 hpc
        subst hpc
        obtain ⟨x1, rfl, rfl, rfl, rfl, rfl, rfl, rfl, rfl, hm, hF, h00, hcs⟩ := hh
        have hY1 := wp_Y_H hY hF
        rcases hcs with ⟨hn0, hZ, hx1, j101⟩ | hW
        · refine ⟨fun z => (wp_Z_8 hZ hn0 z).elim, fun _ => ?_⟩
          refine ⟨_, _, ts, n, r2.2.1, t, rfl, hY1, wp_Z_s hZ hn0, fun v I2 z2 hv f2 => ?_⟩
          rw [wp_Zs hn0, hr3] at z2 hv
          refine ⟨4800, by omega, x1, rfl, rfl, rfl, rfl, rfl, rfl, rfl, rfl, rfl, wp_HF_tr (wp_HF_tr hF (wp_HF_F f2)) (wp_HF_u (by omega)), by rw [wv_u_no _ _ (by omega), f2 _ _ (by omega)]; exact h00, ?_⟩
          exact wp_nw (wp_Z_u z2 (by rw [wv_u_no _ _ (by omega)]) (by rw [wv_u_no _ _ (by omega)])) hE3 (fun hz => ⟨hx1, by rw [wv_u_no _ _ (by omega), f2 _ _ (by omega)]; exact j101, by rw [wv_u_at]; exact hv hz⟩)
        · refine ⟨fun _ => ?_, fun z => (z (wp_W_8 hW)).elim⟩
          exact ⟨4800, by omega, x1, rfl, rfl, rfl, rfl, rfl, rfl, rfl, rfl, rfl, wp_HF_tr hF (wp_HF_u (by omega)), by rw [wv_u_no _ _ (by omega)]; exact h00, Or.inr (wp_W_u hW (by rw [wv_u_no _ _ (by omega)]) (by rw [wv_u_no _ _ (by omega)]))⟩
      · split at hP
        · cases hP
          rename_i y0 y1 hpc
          subst hpc
          obtain ⟨x1, rfl, rfl, rfl, rfl, rfl, rfl, rfl, rfl, hm, hF, h00, hcs⟩ := hh
          have hY1 := wp_Y_H hY hF
          rcases hcs with ⟨hn0, hZ, hx1, j101, j102⟩ | hW
          · refine ⟨fun z => (wp_Z_8 hZ hn0 z).elim, fun _ => ?_⟩
            refine ⟨_, _, ts, n, r3.2.1, t, rfl, hY1, wp_Z_s hZ hn0, fun v I2 z2 hv f2 => ?_⟩
            rw [wp_Zs hn0, hr4] at z2
            refine ⟨4700, by omega, x1, rfl, rfl, rfl, rfl, rfl, rfl, rfl, rfl, rfl, wp_HF_tr hF (wp_HF_F f2), by rw [f2 _ _ (by omega)]; exact h00, ?_⟩
            exact wp_nw z2 hE4 (fun hz => ⟨hx1, by rw [f2 _ _ (by omega)]; exact j101, by rw [f2 _ _ (by omega)]; exact j102⟩)
          · refine ⟨fun _ => ?_, fun z => (z (wp_W_8 hW)).elim⟩
            exact ⟨4700, by omega, x1, rfl, rfl, rfl, rfl, rfl, rfl, rfl, rfl, rfl, hF, h00, Or.inr hW⟩
        · split at hP
          · cases hP
            rename_i y0 y1 y2 hpc
            subst hpc
            obtain ⟨x1, rfl, rfl, rfl, rfl, rfl, rfl, rfl, rfl, hm, hF, h00, hcs⟩ := hh
            have hY1 := wp_Y_H hY hF
            have e60 : ((Int8.ofInt 60).toInt32).toInt = 60 := rfl
            have em1 : (Int32.ofInt (-1)).toInt = -1 := rfl
            rcases hcs with ⟨hn0, hZ, hx1, j101, j102⟩ | hW
            · have eg : x1 - I1 460 101 - I1 460 102 = r1.1 - r2.1 - r3.1 := by rw [hx1, j101, j102]
              -- what the last number of the header does
              have fin : ∀ (hi v : Int32) (I2 : Nat → Nat → Int32), (hi = r1.1 - r2.1 - r3.1 ∨ (Int8.ofInt 60).toInt32 < r1.1 - r2.1 - r3.1) → ((Int8.ofInt 60).toInt32 < r1.1 - r2.1 - r3.1 → hi = Int32.ofInt (-1)) → wp_Z (nm_st t n) ts n (nm_rd ts n (r1.1 - r2.1 - r3.1) hi r4.2).2 I2 → ((nm_rd ts n (r1.1 - r2.1 - r3.1) hi r4.2).2.2 = none → v = (nm_rd ts n (r1.1 - r2.1 - r3.1) hi r4.2).1) → wp_F I1 I2 → (r6.2.2 = none ∧ wp_Z (nm_st t n) ts n r6.2 (wv_u I2 460 103 v) ∧ x1 = r1.1 ∧ wv_u I2 460 103 v 460 101 = r2.1 ∧ wv_u I2 460 103 v 460 102 = r3.1 ∧ wv_u I2 460 103 v 460 103 = Int32.ofNat G) ∨ wp_W ft (wv_u I2 460 103 v) := by
                intro hi v I2 c1 c2 z2 hv f2
                by_cases hb : r1.1 - r2.1 - r3.1 < 0 ∨ (Int8.ofInt 60).toInt32 < r1.1 - r2.1 - r3.1
                · have hlow := hlowb r4.2.1
                  have hout : tk_low ts r4.2.1 < r1.1 - r2.1 - r3.1 ∨ hi < tk_low ts r4.2.1 := by
                    refine Or.inr ?_
                    rcases hb with hb | hb
                    · have hh : hi = r1.1 - r2.1 - r3.1 := c1.resolve_right (fun z => by rw [wi_lt, e60] at z; rw [wi_lt, wi_0] at hb; omega)
                      rw [hh]
                      rw [wi_lt, wi_0] at hb
                      rw [wi_lt]
                      omega
                    · rw [c2 hb, wi_lt, em1]
                      omega
                  rw [nm_rd_out hn0 hout] at z2
                  have hz : (tk_ref ts n r4.2).2 = some (tk_place ts n r4.2.1) := by
                    unfold tk_ref tk_refAt
                    rw [hn0]
                  refine Or.inr (wp_W_u (wp_W_of z2 hz ?_) (by rw [wv_u_no _ _ (by omega)]) (by rw [wv_u_no _ _ (by omega)]))
                  refine hE6 _ ?_
                  rw [← hr6, ← hs5, if_pos hb]
                  exact nm_rd_some hz
                · have hh : hi = r1.1 - r2.1 - r3.1 := c1.resolve_right (fun z => hb (Or.inr z))
                  have e5 : s5 = r4.2 := by rw [← hs5, if_neg hb]
                  have e6 : nm_rd ts n (r1.1 - r2.1 - r3.1) hi r4.2 = r6 := by rw [hh, ← e5]; exact hr6
                  rw [e6] at z2 hv
                  refine wp_nw (wp_Z_u z2 (by rw [wv_u_no _ _ (by omega)]) (by rw [wv_u_no _ _ (by omega)])) hE6 (fun hz => ⟨hx1, ?_, ?_, ?_⟩)
                  · rw [wv_u_no _ _ (by omega), f2 _ _ (by omega)]; exact j101
                  · rw [wv_u_no _ _ (by omega), f2 _ _ (by omega)]; exact j102
                  · rw [wv_u_at, hv hz]
                    exact hG6 hz
              refine ⟨fun z => (wp_Z_8 hZ hn0 z).elim, fun _ => ?_⟩
              refine ⟨fun h2 => ?_, fun h2 => ?_⟩
              · rw [eg] at h2
                refine ⟨_, _, ts, n, r4.2.1, t, rfl, hY1, wp_Z_s hZ hn0, fun v I2 z2 hv f2 => ?_⟩
                rw [wp_Zs hn0, eg] at z2 hv
                refine ⟨4600, by omega, x1, _, rfl, rfl, rfl, rfl, rfl, rfl, rfl, rfl, rfl, wp_HF_tr (wp_HF_tr hF (wp_HF_F f2)) (wp_HF_u (by omega)), by rw [wv_u_no _ _ (by omega), f2 _ _ (by omega)]; exact h00, ?_⟩
                exact fin _ v I2 (Or.inl rfl) (fun z => absurd z (Int32.not_lt.mpr h2)) z2 hv f2
              · rw [eg] at h2
                refine ⟨_, _, ts, n, r4.2.1, t, rfl, hY1, wp_Z_s hZ hn0, fun v I2 z2 hv f2 => ?_⟩
                rw [wp_Zs hn0, eg] at z2 hv
                refine ⟨4600, by omega, x1, _, rfl, rfl, rfl, rfl, rfl, rfl, rfl, rfl, rfl, wp_HF_tr (wp_HF_tr hF (wp_HF_F f2)) (wp_HF_u (by omega)), by rw [wv_u_no _ _ (by omega), f2 _ _ (by omega)]; exact h00, ?_⟩
                exact fin _ v I2 (Or.inr (Int32.not_le.mp h2)) (fun _ => rfl) z2 hv f2
            · refine ⟨fun _ => ?_, fun z => (z (wp_W_8 hW)).elim⟩
              exact ⟨4600, by omega, x1, _, rfl, rfl, rfl, rfl, rfl, rfl, rfl, rfl, rfl, wp_HF_tr hF (wp_HF_u (by omega)), by rw [wv_u_no _ _ (by omega)]; exact h00, Or.inr (wp_W_u hW (by rw [wv_u_no _ _ (by omega)]) (by rw [wv_u_no _ _ (by omega)]))⟩
          · split at hP
            · cases hP
              rename_i y0 y1 y2 y3 hpc
              subst hpc
              obtain ⟨x1, x2, rfl, rfl, rfl, rfl, rfl, rfl, rfl, rfl, hm, hF, h00, hcs⟩ := hh
              have hY1 := wp_Y_H hY hF
              have onW : ∀ I2, wp_HF I I2 → I2 460 0 = Int32.ofInt 0 → wp_W ft I2 → ∃ m1, m1 < m ∧ ∃ (y1 y2 : Int32) (p : Nat), wp_l486 (some (.int x1)) (some (.int x2)) = wp_l486 (some (.int y1)) (some (.int y2)) ∧ ([] : List Value) = [] ∧ T1 = T1 ∧ N1 = N1 ∧ L1 = L1 ∧ R1 = R1 ∧ 0 = 0 ∧ 0 = 0 ∧ m1 = 1000 - p ∧ p ≤ 400 ∧ I2 460 5 = Int32.ofNat p ∧ wp_HF I I2 ∧ I2 460 0 = Int32.ofInt 0 ∧ (((nmDk ts n A B G r6.2 G).2 = none ∧ r6.2.2 = none ∧ (∃ e, e ≤ p ∧ e ≤ n ∧ (∀ k, e ≤ k → k < p → t k = (Int8.ofInt 32).toInt32) ∧ ts.drop (nmDk ts n A B G r6.2 G).1 = wt_lx (nm_st t n) n e) ∧ I2 460 8 = Int32.ofInt (-1) ∧ wm_V ts n A B G r6.2 I2 G G B B 6 ∧ I2 460 101 = r2.1 ∧ I2 460 102 = r3.1 ∧ I2 460 103 = Int32.ofNat G) ∨ wp_W ft I2) := by
                intro I2 hF2 h02 hW
                obtain ⟨z, w1, w2, w3, e, w4, w5⟩ := hW
                exact ⟨1000 - e, by omega, x1, x2, e, rfl, rfl, rfl, rfl, rfl, rfl, rfl, rfl, rfl, w5, w4, hF2, h02, Or.inr ⟨z, w1, w2, w3, e, w4, w5⟩⟩
              rcases hcs with ⟨hn0, hZ, hx1, j101, j102, j103⟩ | hW
              · obtain ⟨bA, bB, bG, eA, eB, eAll⟩ := hb6 hn0
                refine ⟨fun z => (wp_Z_8 hZ hn0 z).elim, fun _ => ?_⟩
                refine ⟨t, ts, n, A, B, G, r6.2, congrArg (fun x => [Value.ref 460, Value.int x]) (by rw [hx1]; exact eAll), hT, bA, bB, bG, hY1, hn0, hZ, by rw [j101]; exact eA, by rw [j102]; exact eB, j103, fun I2 g2 hc => ?_⟩
                have hF2 := wp_HF_tr hF (wp_HF_G g2)
                have h02 : I2 460 0 = Int32.ofInt 0 := by rw [g2 _ _ (by omega) (by omega)]; exact h00
                rcases hc with ⟨d1, d2, d3⟩ | hX
                · obtain ⟨e, z1, z2, z3, z4⟩ : ∃ e, I2 460 5 = Int32.ofNat e ∧ e ≤ n ∧ I2 460 8 = Int32.ofInt (-1) ∧ ts.drop (nmDk ts n A B G r6.2 G).1 = wt_lx (nm_st t n) n e := by
                    unfold wp_Z at d2
                    rw [d1] at d2
                    exact d2
                  have hn4 := hY.2.2.1
                  exact ⟨1000 - e, by omega, x1, x2, e, rfl, rfl, rfl, rfl, rfl, rfl, rfl, rfl, rfl, by omega, z1, hF2, h02, Or.inl ⟨d1, hn0, ⟨e, Nat.le_refl _, z2, fun k a b => by omega, z4⟩, z3, d3, by rw [g2 _ _ (by omega) (by omega)]; exact j101, by rw [g2 _ _ (by omega) (by omega)]; exact j102, by rw [g2 _ _ (by omega) (by omega)]; exact j103⟩⟩
                · obtain ⟨z, w1, w2, w3, w4⟩ := hX
                  exact onW I2 hF2 h02 ⟨z, w1, w2, by rw [hftE hn0]; exact w3, w4⟩
              · refine ⟨fun _ => onW I1 hF h00 hW, fun z => (z (wp_W_8 hW)).elim⟩
            · split at hP
              · cases hP
                rename_i y0 y1 y2 y3 y4 hpc
                subst hpc
                obtain ⟨x1, x2, p, rfl, rfl, rfl, rfl, rfl, rfl, rfl, rfl, hm, hp, i5, hF, h00, hcs⟩ := hh
                have hY1 := wp_Y_H hY hF
                refine ⟨p, congrArg (fun x => [Value.ref 460, Value.int x]) i5, by omega, hY1.1, ?_⟩
                rw [hY1.2.1]
                refine ⟨fun h1 => ?_, fun h1 => ?_⟩
                · -- behind the blanks
                  have cut : ∀ I2, wp_HF I I2 → I2 460 0 = Int32.ofInt 0 → ((ft = none ∧ I2 460 8 = Int32.ofInt (-1) ∧ r6.2.2 = none ∧ wm_V ts n A B G r6.2 I2 G G B B 6 ∧ I2 460 101 = r2.1 ∧ I2 460 102 = r3.1 ∧ I2 460 103 = Int32.ofNat G) ∨ wp_W ft I2) → (0 ≤ wv_u I2 460 2 (Int32.ofInt 0) 460 8 → q (.inl (some (.int (wv_u I2 460 2 (Int32.ofInt 0) 460 8)))) T1 N1 (wv_u I2 460 2 (Int32.ofInt 0)) L1 R1 0 0) ∧ (¬ 0 ≤ wv_u I2 460 2 (Int32.ofInt 0) 460 8 → A ≤ 3 ∧ B ≤ 5 ∧ G ≤ 60 ∧ wv_u I2 460 2 (Int32.ofInt 0) 460 101 = Int32.ofNat A ∧ wv_u I2 460 2 (Int32.ofInt 0) 460 102 = Int32.ofNat B ∧ wv_u I2 460 2 (Int32.ofInt 0) 460 103 = Int32.ofNat G ∧ (∀ j, j < B → vp_nar .boolean (wv_u I2 460 2 (Int32.ofInt 0) 533 j) = wv_u I2 460 2 (Int32.ofInt 0) 533 j) ∧ ∀ I3, wp_T1 (wv_u I2 460 2 (Int32.ofInt 0)) I3 A B G G B 6 → I3 460 66 = Int32.ofInt 0 → q (.inl (some (.int (Int32.ofInt (-1))))) T1 N1 I3 L1 R1 0 0) := by
                    intro I2 hF2 h02 hc
                    have u8 : wv_u I2 460 2 (Int32.ofInt 0) 460 8 = I2 460 8 := wv_u_no _ _ (by omega)
                    refine ⟨fun h8 => ?_, fun h8 => ?_⟩
                    · rcases hc with ⟨c1, c2, _⟩ | ⟨z, w1, w2, w3, w4⟩
                      · rw [u8, c2] at h8
                        exact absurd h8 (by decide)
                      · rw [u8, w1]
                        have h9 := hq (wv_u I2 460 2 (Int32.ofInt 0)) (fun c j a1 a2 a3 => by rw [wv_u_no _ _ (by omega)]; exact hF2 c j (by omega) a3) (by rw [wv_u_no _ _ (by omega)]; exact h02) (by rw [wv_u_at]) (fun z => by rw [w3] at z; cases z) (fun _ c j a b => by rw [wv_u_no _ _ (by omega)]; exact hF2 c j (by omega) (by omega))
                        rw [w3] at h9
                        exact h9
                    · rcases hc with ⟨c1, c2, c3, c4, c5, c6, c7⟩ | hW
                      · obtain ⟨bA, bB, bG, eA, eB, eAll⟩ := hb6 c3
                        refine ⟨bA, bB, bG, by rw [wv_u_no _ _ (by omega), c5]; exact eA, by rw [wv_u_no _ _ (by omega), c6]; exact eB, by rw [wv_u_no _ _ (by omega)]; exact c7, fun j hj => ?_, fun I3 t3 f3 => ?_⟩
                        · rw [wv_u_no _ _ (by omega), c4.2.1 j hj]
                          unfold nm_fi
                          split <;> rfl
                        · obtain ⟨k0, k1, k2, k3, k4, k5, k6⟩ := t3
                          have h9 := hq I3 (fun c j a1 a2 a3 => by rw [k0 c j (by omega) a2, wv_u_no _ _ (by omega)]; exact hF2 c j (by omega) a3) (by rw [k0 _ _ (by omega) (by omega), wv_u_no _ _ (by omega)]; exact h02) (by rw [k0 _ _ (by omega) (by omega), wv_u_at]) (fun _ => ⟨c3, bA, bB, bG, k1, k2, k3, f3, fun j hj => ?_, fun j hj => ?_, fun j hj => ?_⟩) (fun z => (z c1).elim)
                          · rw [c1] at h9
                            exact h9
                          · rw [(k4 j hj).1, (k4 j hj).2, wv_u_no _ _ (by omega), wv_u_no _ _ (by omega)]
                            exact ⟨c4.2.2.2.1 j hj, c4.2.2.2.2 j hj⟩
                          · rw [(k5 j hj).1, (k5 j hj).2, wv_u_no _ _ (by omega), wv_u_no _ _ (by omega)]
                            exact ⟨c4.1 j hj, c4.2.1 j hj⟩
                          · rw [k6 j hj, wv_u_no _ _ (by omega)]
                            exact c4.2.2.1 j hj
                      · exact absurd (wp_W_8 hW) (by rw [u8] at h8; exact h8)
                  rcases hcs with ⟨d1, dn0, ⟨e, e1, e2, e3, e4⟩, i8, hV, j101, j102, j103⟩ | hW
                  · have hsk : wt_sk t e p := ⟨e1, e3, h1⟩
                    obtain ⟨d, hd⟩ : ∃ d, wt_dg t p d := wt_dg_ex _ n p (by
                      unfold wt_dig
                      rw [hY.2.2.2.1 (p + n) (by omega)]
                      decide)
                    obtain ⟨hpn, x, l, hxl, hxp, hcase⟩ := nm_head hY.2.2.2 e2 hsk hd
                    rw [hxl] at e4
                    obtain ⟨hta, htd⟩ := tk_drop e4
                    have hnow : tk_now ts (nmDk ts n A B G r6.2 G) = x.1 := tk_now_at d1 hta
                    have hx0 : x.1 = Int32.ofInt 0 ↔ p = n := by
                      rcases hcase with ⟨c1, c2, c3, c4, c5, c6⟩ | ⟨_, _, c3, _⟩
                      · refine ⟨fun z => by rw [c3] at z; exact absurd z (by decide), fun z => by omega⟩
                      · exact c3
                    refine ⟨fun z => (by rw [i8] at z; exact absurd z (by decide)), fun _ => ?_⟩
                    refine ⟨p, congrArg (fun x => [Value.ref 460, Value.int x]) i5, by omega, hY1.1, ?_⟩
                    rw [hY1.2.1]
                    refine ⟨fun h2 => ?_, fun h2 => ?_⟩
                    · have hpe : p = n := by
                        by_cases hlt : p < n
                        · exact (hY.2.2.2.2 p hlt h2).elim
                        · omega
                      have hft : ft = none := by
                        rw [hftE dn0]
                        unfold nmE tk_take
                        rw [hnow, if_pos (hx0.mpr hpe)]
                        rw [tk_adv_at d1 hta]
                      obtain ⟨w1, w2⟩ := cut I1 hF h00 (Or.inl ⟨hft, i8, dn0, hV, j101, j102, j103⟩)
                      refine ⟨fun z => ?_, fun z => w1 (Int32.not_lt.mp z)⟩
                      obtain ⟨a1, a2, a3, a4, a5, a6, a7, a8⟩ := w2 (Int32.not_le.mpr z)
                      exact ⟨A, B, G, rfl, hT, a1, a2, a3, a4, a5, a6, a7, fun I3 t3 f3 => a8 I3 t3 f3⟩
                    · have hpe : ¬ p = n := fun z => h2 (by rw [z]; exact hY.2.2.2.1 n (Nat.le_refl _))
                      have hft : ft = some p := by
                        rw [hftE dn0]
                        unfold nmE tk_take
                        rw [hnow, if_neg (fun z => hpe (hx0.mp z))]
                        unfold tk_ref tk_refAt
                        rw [d1]
                        show some (tk_place ts n (nmDk ts n A B G r6.2 G).1) = _
                        rw [tk_place_at hta, hxp]
                      have i5p : I1 460 5 = Int32.ofNat p := i5
                      refine ⟨_, rfl, ?_⟩
                      obtain ⟨w1, w2⟩ := cut (wp_bad (I1 460 5) I1) (fun c j a b => by rw [wp_bad_no (by omega)]; exact hF c j a b) (by rw [wp_bad_no (by omega)]; exact h00) (Or.inr ⟨p, by rw [wp_bad_8 (by rw [i8]; decide)]; exact i5, hp, hft, p, by rw [wp_bad_no (by omega)]; exact i5, hp⟩)
                      refine ⟨fun z => ?_, fun z => w1 (Int32.not_lt.mp z)⟩
                      obtain ⟨a1, a2, a3, a4, a5, a6, a7, a8⟩ := w2 (Int32.not_le.mpr z)
                      exact ⟨A, B, G, rfl, hT, a1, a2, a3, a4, a5, a6, a7, fun I3 t3 f3 => a8 I3 t3 f3⟩
                  · refine ⟨fun _ => ?_, fun z => (z (wp_W_8 hW)).elim⟩
                    obtain ⟨w1, w2⟩ := cut I1 hF h00 (Or.inr hW)
                    refine ⟨fun z => ?_, fun z => w1 (Int32.not_lt.mp z)⟩
                    obtain ⟨a1, a2, a3, a4, a5, a6, a7, a8⟩ := w2 (Int32.not_le.mpr z)
                    exact ⟨A, B, G, rfl, hT, a1, a2, a3, a4, a5, a6, a7, fun I3 t3 f3 => a8 I3 t3 f3⟩
                · have h2 := Decidable.not_not.mp h1
                  have hlt : p < 400 := wt_m_lt hY1.1 (by rw [hY1.2.1, h2]; decide)
                  refine ⟨1000 - (p + 1), by omega, x1, x2, p + 1, rfl, rfl, rfl, rfl, rfl, rfl, rfl, rfl, rfl, by omega, ?_, wp_HF_tr hF (wp_HF_u (by omega)), ?_, ?_⟩
                  · rw [wv_u_at, i5]; exact wq_4s p
                  · rw [wv_u_no _ _ (by omega)]; exact h00
                  · rcases hcs with ⟨d1, dn0, ⟨e, e1, e2, e3, e4⟩, i8, hV, j101, j102, j103⟩ | ⟨z, w1, w2, w3, w4⟩
                    · refine Or.inl ⟨d1, dn0, ⟨e, by omega, e2, fun k a b => ?_, e4⟩, by rw [wv_u_no _ _ (by omega)]; exact i8, ?_, by rw [wv_u_no _ _ (by omega)]; exact j101, by rw [wv_u_no _ _ (by omega)]; exact j102, by rw [wv_u_no _ _ (by omega)]; exact j103⟩
                      · by_cases hkp : k = p
                        · rw [hkp]; exact h2
                        · exact e3 k a (by omega)
                      · exact wm_V_F hV (fun c j hc => wv_u_no _ _ (by omega))
                    · exact Or.inr ⟨z, by rw [wv_u_no _ _ (by omega)]; exact w1, w2, w3, p + 1, by rw [wv_u_at, i5]; exact wq_4s p, by omega⟩
              · cases hP
