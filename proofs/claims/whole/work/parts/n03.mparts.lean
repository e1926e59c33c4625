/-! ===== the reference: parts of a property in their order ===== -/
/-- kinds of parts with a sequence; how many there are before one -/
def fs_b (k : Nat) : Prop := k = 1 ∨ k = 2 ∨ k = 3 ∨ k = 6
def fs (P : pd_P) : Nat → Nat
  | 0 => 0
  | i + 1 => fs P i + (if pd_k P i = 1 ∨ pd_k P i = 2 ∨ pd_k P i = 3 ∨ pd_k P i = 6 then 1 else 0)
theorem fs_y {P : pd_P} {i : Nat} (h : fs_b (pd_k P i)) : fs P (i + 1) = fs P i + 1 := by
  show fs P i + (if pd_k P i = 1 ∨ pd_k P i = 2 ∨ pd_k P i = 3 ∨ pd_k P i = 6 then 1 else 0) = _
  unfold fs_b at h
  rw [if_pos h]
theorem fs_n {P : pd_P} {i : Nat} (h : ¬ fs_b (pd_k P i)) : fs P (i + 1) = fs P i := by
  show fs P i + (if pd_k P i = 1 ∨ pd_k P i = 2 ∨ pd_k P i = 3 ∨ pd_k P i = 6 then 1 else 0) = _
  unfold fs_b at h
  rw [if_neg h]
  rfl
theorem fs_le {P : pd_P} {i : Nat} : ∀ d, fs P i ≤ fs P (i + d)
  | 0 => Nat.le_refl _
  | d + 1 => Nat.le_trans (fs_le d) (Nat.le_add_right _ _)
theorem fs_lt {P : pd_P} {i j : Nat} (h : i ≤ j) : fs P i ≤ fs P j := by
  have := fs_le (P := P) (i := i) (j - i)
  rw [show i + (j - i) = j by omega] at this
  exact this
theorem fs_s {P : pd_P} {i j : Nat} (h : i < j) (hb : fs_b (pd_k P i)) : fs P i < fs P j := by
  have := fs_lt (P := P) (show i + 1 ≤ j by omega)
  rw [fs_y hb] at this
  omega
/-- nodes that wait, the next one first: their parts follow one another -/
def fp_c (pa pb : Nat → Nat) (m : Nat) : Nat → List Nat → Prop
  | k, [] => k = m
  | k, n :: l => pa n = k ∧ pa n < pb n ∧ fp_c pa pb m (pb n) l
theorem fp_c_le {pa pb : Nat → Nat} {m : Nat} : ∀ {l : List Nat} {k : Nat}, fp_c pa pb m k l → k + l.length ≤ m
  | [], k, h => by
    have h : k = m := h
    simp only [List.length_nil]
    omega
  | n :: l, k, h => by
    obtain ⟨h1, h2, h3⟩ := h
    have := fp_c_le h3
    simp only [List.length_cons]
    omega
def fp_w (I : Nat → Nat → Int32) : List Nat → Prop
  | [] => True
  | y :: l => I 525 l.length = Int32.ofNat y ∧ fp_w I l
theorem fp_w_c {I J : Nat → Nat → Int32} : ∀ {l : List Nat}, fp_w I l → (∀ j, j < l.length → J 525 j = I 525 j) → fp_w J l
  | [], _, _ => trivial
  | y :: l, h, g => ⟨(g _ (Nat.lt_succ_self _)).trans h.1, fp_w_c h.2 (fun j hj => g j (Nat.lt_succ_of_lt hj))⟩
theorem fs_tr {P : pd_P} {x : nq_N} {c cl cr : Nat → Bool} {A : nt_A} {a b al bl ar br : Nat} (h : tr_eq P x c cl cr A a b al bl ar br) : (fs_b (pd_k P a) ↔ tr_S (nq_k x)) ∧ (tr_S (nq_k x) → pd_a P a = A) ∧ (¬ tr_R (nq_k x) → ¬ tr_L (nq_k x) → b = a + 1) ∧ (tr_R (nq_k x) → ¬ tr_L (nq_k x) → ar = a + 1 ∧ b = br) ∧ (¬ tr_R (nq_k x) → tr_L (nq_k x) → al = a + 1 ∧ b = bl) ∧ (tr_R (nq_k x) → tr_L (nq_k x) → al = a + 1 ∧ ar = bl ∧ b = br) := by
  unfold fs_b tr_S tr_R tr_L
  rcases h with ⟨h1, h2, h⟩ | ⟨h1, h2, h⟩ | ⟨h1, h2, h⟩ | ⟨h1, h2, h⟩ | ⟨h1, h2, h⟩ | ⟨h1, h2, h⟩ | ⟨h1, h2, h⟩ | ⟨h1, h2, h⟩ | ⟨h1, h2, h⟩ | ⟨h1, h2, h⟩ | ⟨h1, h2, h⟩
  · exact ⟨by omega, fun z => by omega, fun _ _ => h.2, fun z => by omega, fun _ z => by omega, fun z => by omega⟩
  · exact ⟨by omega, fun _ => h.1, fun _ _ => h.2, fun z => by omega, fun _ z => by omega, fun z => by omega⟩
  · exact ⟨by omega, fun _ => h.1, fun z => by omega, fun _ _ => h.2, fun _ z => by omega, fun _ z => by omega⟩
  · exact ⟨by omega, fun _ => h.1, fun z => by omega, fun _ _ => h.2, fun _ z => by omega, fun _ z => by omega⟩
  · exact ⟨by omega, fun z => by omega, fun z => by omega, fun _ _ => h.2, fun _ z => by omega, fun _ z => by omega⟩
  · exact ⟨by omega, fun z => by omega, fun _ z => by omega, fun z => by omega, fun _ _ => h, fun z => by omega⟩
  · exact ⟨by omega, fun _ => h.1, fun _ _ => h.2, fun z => by omega, fun _ z => by omega, fun z => by omega⟩
  · exact ⟨by omega, fun z => by omega, fun _ z => by omega, fun z => by omega, fun _ _ => h.2, fun z => by omega⟩
  · exact ⟨by omega, fun z => by omega, fun _ z => by omega, fun z => by omega, fun _ _ => h.2, fun z => by omega⟩
  · exact ⟨by omega, fun z => by omega, fun _ _ => h.2.2, fun z => by omega, fun _ z => by omega, fun z => by omega⟩
  · exact ⟨by omega, fun z => by omega, fun z => by omega, fun _ z => by omega, fun z => by omega, fun _ _ => ⟨h.1, h.2.1, h.2.2.2⟩⟩
/-- a property whose parts are told -/
def fp_D (S : rn_N) (P : pd_P) (Q : Nat → Prop) (pa pb : Nat → Nat) (x : Nat) : Prop := tr_ok P (rn_d S) (rn_h S) (rn_t S) Q pa pb ∧ (∀ y, Q y → y < rn_n S ∧ fl_prop (rn_k S y)) ∧ Q x ∧ pa x = 0 ∧ pb x = pd_m P ∧ pd_m P ≤ 155 ∧ fs P (pd_m P) ≤ 4
/-- its slots: empty, or filled already -/
def fp_r (p : Nat) (S : rn_N) (P : pd_P) (Q : Nat → Prop) (pa : Nat → Nat) (lo : Nat → Nat) (U : Nat → np_A) (cl : Nat → Nat → Nat) (Al : Nat → Nat → Prop) (I : Nat → Nat → Int32) : Prop := ∀ n, Q n → tr_S (rn_k S n) → pb_S S lo U (nq_l (rn_d S n)) ∧ rs_cc (U (nq_l (rn_d S n))) (cl n) (Al n) ∧ (I 520 (4 * p + fs P (pa n)) = 0 ∨ ∃ K mv kd, rk_c (U (nq_l (rn_d S n))) K mv kd ∧ rk_T (4 * p + fs P (pa n)) K mv kd I)
def fp_F (p : Nat) (I I1 : Nat → Nat → Int32) : Prop := ∀ c j, ¬ (508 ≤ c ∧ c ≤ 511) → ¬ c = 514 → ¬ (516 ≤ c ∧ c ≤ 519) → ¬ (523 ≤ c ∧ c ≤ 525) → ¬ (c = 460 ∧ (j = 75 ∨ j = 88 ∨ j = 94)) → ¬ (c = 520 ∧ 4 * p ≤ j ∧ j < 4 * p + 4) → ¬ (c = 521 ∧ 320 * (4 * p) ≤ j ∧ j < 320 * (4 * p + 4)) → ¬ (c = 522 ∧ 64 * (320 * (4 * p)) ≤ j ∧ j < 64 * (320 * (4 * p + 4))) → I1 c j = I c j
/-- slots from s on are as they were -/
def fp_s (s : Nat) (I I1 : Nat → Nat → Int32) : Prop := (∀ j, s ≤ j → I1 520 j = I 520 j) ∧ (∀ j, 320 * s ≤ j → I1 521 j = I 521 j) ∧ ∀ j, 64 * (320 * s) ≤ j → I1 522 j = I 522 j
theorem fp_s_T {s t K : Nat} {mv : Nat → Nat → Nat} {kd : Nat → Nat} {I I1 : Nat → Nat → Int32} (h : rk_T t K mv kd I) (g : fp_s s I I1) (hs : s ≤ t) : rk_T t K mv kd I1 := by
  obtain ⟨h1, h2, h3, h4, h5⟩ := h
  exact ⟨(g.1 t hs).trans h1, h2, h3, fun c hc => by rw [g.2.1 _ (by omega)]; exact h4 c hc, fun c v hc hv => by rw [g.2.2 _ (by omega)]; exact h5 c v hc hv⟩
/-- a slot is left alone by what is done to a later one -/
theorem rk_T_o {s t K : Nat} {mv : Nat → Nat → Nat} {kd : Nat → Nat} {I I1 : Nat → Nat → Int32} (h : rk_T t K mv kd I) (g : rk_FI s I I1) (hs : ¬ t = s) : rk_T t K mv kd I1 := by
  obtain ⟨h1, h2, h3, h4, h5⟩ := h
  refine ⟨?_, h2, h3, fun c hc => ?_, fun c v hc hv => ?_⟩
  · rw [g _ _ (by omega) (by omega) (by omega) (by omega) (by omega) (by omega) (by omega)]
    exact h1
  · rw [g _ _ (by omega) (by omega) (by omega) (by omega) (by omega) (by omega) (by omega)]
    exact h4 c hc
  · rw [g _ _ (by omega) (by omega) (by omega) (by omega) (by omega) (by omega) (by omega)]
    exact h5 c v hc hv
def fp_o (p : Nat) (S : rn_N) (P : pd_P) (U : Nat → np_A) (pn : Nat → Nat) (k : Nat) (I1 : Nat → Nat → Int32) : Prop := ∀ i, i < k → fs_b (pd_k P i) → ∃ K mv kd, rk_c (U (nq_l (rn_d S (pn i)))) K mv kd ∧ rk_T (4 * p + fs P i) K mv kd I1
/-- k parts are told, those of l wait -/
def fp_Z (p : Nat) (S : rn_N) (m0 : Nat) (P : pd_P) (Q : Nat → Prop) (pa pb : Nat → Nat) (U : Nat → np_A) (pn : Nat → Nat) (k : Nat) (l : List Nat) (T : wv_T) (I : Nat → Nat → Int32) (L : Nat → Nat → Int64) (I1 : Nat → Nat → Int32) (L1 : Nat → Nat → Int64) : Prop := pb_X T I1 S m0 ∧ I1 460 37 = Int32.ofNat (rn_n S) ∧ I1 460 94 = Int32.ofNat k ∧ (∀ i, i < k → Q (pn i) ∧ pa (pn i) = i) ∧ (∀ i, i < k → I1 523 i = Int32.ofNat (pn i) ∧ I1 524 i = Int32.ofNat (4 * p + fs P i)) ∧ fp_o p S P U pn k I1 ∧ fp_s (4 * p + fs P k) I I1 ∧ fp_w I1 l ∧ (∀ y, y ∈ l → Q y) ∧ fp_F p I I1 ∧ rk_FL L L1
def fp_l (p m s : Nat) (x4 x5 : Option Value) : List (Option Value) := [some (.ref 460), some (.int (Int32.ofNat p)), some (.int (Int32.ofNat m)), some (.int (Int32.ofNat s)), x4, x5, none, none]
def fp_h439 (p : Nat) (S : rn_N) (m0 : Nat) (P : pd_P) (Q : Nat → Prop) (pa pb : Nat → Nat) (U : Nat → np_A) (T : wv_T) (N : Nat) (I : Nat → Nat → Int32) (L : Nat → Nat → Int64) (R : Nat → Nat → Option Nat) : Nat → Option (Nat → wv_P) := fun pc =>
  if pc = 21 then some (fun mm lv st T1 N1 I1 L1 R1 nc ns => ∃ (k : Nat) (l : List Nat) (pn : Nat → Nat) (x4 x5 : Option Value), lv = fp_l p l.length (4 * p + fs P k) x4 x5 ∧ st = [] ∧ T1 = T ∧ N1 = N ∧ R1 = R ∧ nc = 0 ∧ ns = 0 ∧ fp_Z p S m0 P Q pa pb U pn k l T I L I1 L1 ∧ fp_c pa pb (pd_m P) k l ∧ mm = 10 * (1000 - k) + 9)
  else if pc = 76 then some (fun mm lv st T1 N1 I1 L1 R1 nc ns => ∃ (k n : Nat) (l : List Nat) (pn : Nat → Nat), lv = fp_l p l.length (4 * p + fs P k) (pb_i n) (pb_i (rn_k S n)) ∧ st = [] ∧ T1 = T ∧ N1 = N ∧ R1 = R ∧ nc = 0 ∧ ns = 0 ∧ fp_Z p S m0 P Q pa pb U pn k l T I L (wv_u I1 460 94 (Int32.ofNat k)) L1 ∧ I1 460 94 = Int32.ofNat (k + 1) ∧ I1 523 k = Int32.ofNat n ∧ I1 524 k = Int32.ofNat (4 * p + fs P k) ∧ Q n ∧ pa n = k ∧ fp_c pa pb (pd_m P) (pb n) l ∧ mm = 10 * (1000 - k) + 8)
  else if pc = 99 then some (fun mm lv st T1 N1 I1 L1 R1 nc ns => ∃ (k n : Nat) (l : List Nat) (pn : Nat → Nat), lv = fp_l p l.length (4 * p + fs P (k + 1)) (pb_i n) (pb_i (rn_k S n)) ∧ st = [] ∧ T1 = T ∧ N1 = N ∧ R1 = R ∧ nc = 0 ∧ ns = 0 ∧ fp_Z p S m0 P Q pa pb U pn (k + 1) l T I L I1 L1 ∧ Q n ∧ pa n = k ∧ fp_c pa pb (pd_m P) (pb n) l ∧ mm = 10 * (1000 - k) + 7)
  else if pc = 143 then some (fun mm lv st T1 N1 I1 L1 R1 nc ns => ∃ (k n : Nat) (l : List Nat) (pn : Nat → Nat), lv = fp_l p l.length (4 * p + fs P (k + 1)) (pb_i n) (pb_i (rn_k S n)) ∧ st = [] ∧ T1 = T ∧ N1 = N ∧ R1 = R ∧ nc = 0 ∧ ns = 0 ∧ fp_Z p S m0 P Q pa pb U pn (k + 1) l T I L I1 L1 ∧ Q n ∧ pa n = k ∧ (¬ tr_L (rn_k S n) → fp_c pa pb (pd_m P) (k + 1) l) ∧ (tr_L (rn_k S n) → fp_c pa pb (pd_m P) (k + 1) (nq_l (rn_d S n) :: l)) ∧ mm = 10 * (1000 - k) + 6)
  else none
def fp_c439 : wv_c1 := fun as T N I L R q => ∃ (S : rn_N) (m0 p x : Nat) (P : pd_P) (Q : Nat → Prop) (pa pb : Nat → Nat) (lo : Nat → Nat) (U : Nat → np_A) (cl : Nat → Nat → Nat) (Al : Nat → Nat → Prop), as = [.ref 460, .int (Int32.ofNat p)] ∧ p < 2 ∧ pb_X T I S m0 ∧ I 460 37 = Int32.ofNat (rn_n S) ∧ I 460 38 = Int32.ofNat x ∧ fp_D S P Q pa pb x ∧ fp_r p S P Q pa lo U cl Al I ∧ ∀ pn I1 L1, (∀ i, i < pd_m P → Q (pn i) ∧ pa (pn i) = i) → (∀ i, i < pd_m P → I1 523 i = Int32.ofNat (pn i) ∧ I1 524 i = Int32.ofNat (4 * p + fs P i)) → I1 460 94 = Int32.ofNat (pd_m P) → fp_o p S P U pn (pd_m P) I1 → fp_F p I I1 → rk_FL L L1 → q (.inl none) T N I1 L1 R 0 0
/-- the stack and the parts' arrays are apart from what is kept of nodes -/
theorem fp_X {T : wv_T} {I J : Nat → Nat → Int32} {S : rn_N} {m0 : Nat} (h : pb_X T I S m0) (g : ∀ c j, 469 ≤ c → c ≤ 475 → J c j = I c j) : pb_X T J S m0 := ⟨h.1, h.2.1, h.2.2.1, fun x hx => rw_pn (h.2.2.2 x hx) g⟩
/-- one more that waits -/
theorem fp_push {p m0 k y : Nat} {S : rn_N} {P : pd_P} {Q : Nat → Prop} {pa pb : Nat → Nat} {U : Nat → np_A} {pn : Nat → Nat} {l : List Nat} {T : wv_T} {I : Nat → Nat → Int32} {L : Nat → Nat → Int64} {I1 : Nat → Nat → Int32} {L1 : Nat → Nat → Int64} (h : fp_Z p S m0 P Q pa pb U pn k l T I L I1 L1) (hy : Q y) : fp_Z p S m0 P Q pa pb U pn k (y :: l) T I L (wv_u I1 525 l.length (Int32.ofNat y)) L1 := by
  obtain ⟨h1, h2, h3, h4, h5, h6, h7, h8, h9, h10, h11⟩ := h
  have e : ∀ c j, ¬ c = 525 → wv_u I1 525 l.length (Int32.ofNat y) c j = I1 c j := fun c j z => wv_u_no _ _ (fun w => z w.1)
  refine ⟨fp_X h1 (fun c j c1 c2 => e c j (by omega)), (e _ _ (by omega)).trans h2, (e _ _ (by omega)).trans h3, h4, fun i hi => ?_, fun i hi hb => ?_, ⟨fun j hj => (e _ _ (by omega)).trans (h7.1 j hj), fun j hj => (e _ _ (by omega)).trans (h7.2.1 j hj), fun j hj => (e _ _ (by omega)).trans (h7.2.2 j hj)⟩, ⟨wv_u_at _ _ _ _, fp_w_c h8 (fun j hj => wv_u_no _ _ (by omega))⟩, fun z hz => ?_, fun c j z1 z2 z3 z4 z5 z6 z7 z8 => (e _ _ (by omega)).trans (h10 c j z1 z2 z3 z4 z5 z6 z7 z8), h11⟩
  · rw [e _ _ (by omega), e _ _ (by omega)]
    exact h5 i hi
  · obtain ⟨K, mv, kd, k1, k2⟩ := h6 i hi hb
    exact ⟨K, mv, kd, k1, rk_T_c k2 (fun c j c1 c2 => e c j (by omega))⟩
  · rcases List.mem_cons.mp hz with z | z
    · rw [z]
      exact hy
    · exact h9 _ z
