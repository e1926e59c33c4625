/-! ===== the reference: tokens of a design text, taken; names told ===== -/
def ds_vk (k : Int32) : Prop := k = Int32.ofInt 0 ∨ k = Int32.ofInt 1 ∨ k = Int32.ofInt 4 ∨ k = Int32.ofInt 5 ∨ k = (Int8.ofInt 6).toInt32 ∨ k = (Int8.ofInt 7).toInt32 ∨ k = (Int8.ofInt 8).toInt32 ∨ k = (Int8.ofInt 9).toInt32 ∨ k = (Int8.ofInt 15).toInt32 ∨ k = (Int8.ofInt 16).toInt32 ∨ k = (Int8.ofInt 28).toInt32 ∨ k = (Int8.ofInt 32).toInt32 ∨ k = (Int8.ofInt 33).toInt32 ∨ k = (Int8.ofInt 34).toInt32 ∨ k = (Int8.ofInt 35).toInt32 ∨ k = (Int8.ofInt 36).toInt32 ∨ k = (Int8.ofInt 37).toInt32 ∨ k = (Int8.ofInt 38).toInt32
theorem ds_v0 : ds_vk (Int32.ofInt 0) := by unfold ds_vk; decide
theorem ds_v1 : ds_vk (Int32.ofInt 1) := by unfold ds_vk; decide
theorem ds_v4 : ds_vk (Int32.ofInt 4) := by unfold ds_vk; decide
theorem ds_v5 : ds_vk (Int32.ofInt 5) := by unfold ds_vk; decide
theorem ds_v6 : ds_vk ((Int8.ofInt 6).toInt32) := by unfold ds_vk; decide
theorem ds_v7 : ds_vk ((Int8.ofInt 7).toInt32) := by unfold ds_vk; decide
theorem ds_v8 : ds_vk ((Int8.ofInt 8).toInt32) := by unfold ds_vk; decide
theorem ds_v9 : ds_vk ((Int8.ofInt 9).toInt32) := by unfold ds_vk; decide
theorem ds_v15 : ds_vk ((Int8.ofInt 15).toInt32) := by unfold ds_vk; decide
theorem ds_v16 : ds_vk ((Int8.ofInt 16).toInt32) := by unfold ds_vk; decide
theorem ds_v28 : ds_vk ((Int8.ofInt 28).toInt32) := by unfold ds_vk; decide
theorem ds_v32 : ds_vk ((Int8.ofInt 32).toInt32) := by unfold ds_vk; decide
theorem ds_v33 : ds_vk ((Int8.ofInt 33).toInt32) := by unfold ds_vk; decide
theorem ds_v34 : ds_vk ((Int8.ofInt 34).toInt32) := by unfold ds_vk; decide
theorem ds_v35 : ds_vk ((Int8.ofInt 35).toInt32) := by unfold ds_vk; decide
theorem ds_v36 : ds_vk ((Int8.ofInt 36).toInt32) := by unfold ds_vk; decide
theorem ds_v37 : ds_vk ((Int8.ofInt 37).toInt32) := by unfold ds_vk; decide
theorem ds_v38 : ds_vk ((Int8.ofInt 38).toInt32) := by unfold ds_vk; decide
theorem ds_vk_st {t : Nat → Int32} {n p p2 : Nat} {x : wt_t} (h : ds_st t n p = (some x, p2)) : ds_vk x.1 := by
  unfold ds_st at h
  split at h
  · cases h
  · split at h
    · rename_i k hk
      cases h
      unfold ds_k at hk
      repeat' split at hk
      all_goals first
        | (cases hk; first | exact ds_v6 | exact ds_v7 | exact ds_v15 | exact ds_v16 | exact ds_v4 | exact ds_v5 | exact ds_v9 | exact ds_v37 | exact ds_v38 | exact ds_v8)
        | cases hk
    · split at h
      · unfold ds_word at h
        repeat' split at h
        all_goals (cases h; first | exact ds_v1 | exact ds_v33 | exact ds_v34 | exact ds_v35 | exact ds_v28 | exact ds_v36 | exact ds_v32)
      · cases h
        exact ds_v1
theorem ds_vk_lex {t : Nat → Int32} {n : Nat} : ∀ f p x, x ∈ wt_lex (ds_st t n) n f p → ds_vk x.1
  | 0, p, x, h => by
    have h : x ∈ [wt_E n] := h
    rw [List.mem_singleton.mp h]
    exact Or.inl rfl
  | f + 1, p, x, h => by
    unfold wt_lex at h
    split at h
    · cases hst : ds_st t n p with
      | mk o p2 =>
        rw [hst] at h
        cases o with
        | none => exact ds_vk_lex f p2 x h
        | some y =>
          rcases List.mem_cons.mp h with e | e
          · rw [e]; exact ds_vk_st hst
          · exact ds_vk_lex f p2 x e
    · have h : x ∈ [wt_E n] := h
      rw [List.mem_singleton.mp h]
      exact Or.inl rfl
/-- a kind and its number in the reference -/
def ds_kc (K C : Int32) : Prop := ∀ k, ds_vk k → (ds_mc k = C ↔ k = K)
theorem ds_kc_0 : ds_kc (Int32.ofInt 0) ((Int8.ofInt 50).toInt32) := by
  intro k h
  unfold ds_vk at h
  rcases h with h | h | h | h | h | h | h | h | h | h | h | h | h | h | h | h | h | h <;> subst h <;> decide
theorem ds_kc_1 : ds_kc (Int32.ofInt 1) ((Int8.ofInt 51).toInt32) := by
  intro k h
  unfold ds_vk at h
  rcases h with h | h | h | h | h | h | h | h | h | h | h | h | h | h | h | h | h | h <;> subst h <;> decide
theorem ds_kc_4 : ds_kc (Int32.ofInt 4) ((Int8.ofInt 6).toInt32) := by
  intro k h
  unfold ds_vk at h
  rcases h with h | h | h | h | h | h | h | h | h | h | h | h | h | h | h | h | h | h <;> subst h <;> decide
theorem ds_kc_5 : ds_kc (Int32.ofInt 5) ((Int8.ofInt 7).toInt32) := by
  intro k h
  unfold ds_vk at h
  rcases h with h | h | h | h | h | h | h | h | h | h | h | h | h | h | h | h | h | h <;> subst h <;> decide
theorem ds_kc_6 : ds_kc ((Int8.ofInt 6).toInt32) ((Int8.ofInt 20).toInt32) := by
  intro k h
  unfold ds_vk at h
  rcases h with h | h | h | h | h | h | h | h | h | h | h | h | h | h | h | h | h | h <;> subst h <;> decide
theorem ds_kc_7 : ds_kc ((Int8.ofInt 7).toInt32) ((Int8.ofInt 21).toInt32) := by
  intro k h
  unfold ds_vk at h
  rcases h with h | h | h | h | h | h | h | h | h | h | h | h | h | h | h | h | h | h <;> subst h <;> decide
theorem ds_kc_8 : ds_kc ((Int8.ofInt 8).toInt32) ((Int8.ofInt 22).toInt32) := by
  intro k h
  unfold ds_vk at h
  rcases h with h | h | h | h | h | h | h | h | h | h | h | h | h | h | h | h | h | h <;> subst h <;> decide
theorem ds_kc_9 : ds_kc ((Int8.ofInt 9).toInt32) ((Int8.ofInt 23).toInt32) := by
  intro k h
  unfold ds_vk at h
  rcases h with h | h | h | h | h | h | h | h | h | h | h | h | h | h | h | h | h | h <;> subst h <;> decide
theorem ds_kc_15 : ds_kc ((Int8.ofInt 15).toInt32) ((Int8.ofInt 29).toInt32) := by
  intro k h
  unfold ds_vk at h
  rcases h with h | h | h | h | h | h | h | h | h | h | h | h | h | h | h | h | h | h <;> subst h <;> decide
theorem ds_kc_16 : ds_kc ((Int8.ofInt 16).toInt32) ((Int8.ofInt 30).toInt32) := by
  intro k h
  unfold ds_vk at h
  rcases h with h | h | h | h | h | h | h | h | h | h | h | h | h | h | h | h | h | h <;> subst h <;> decide
theorem ds_kc_28 : ds_kc ((Int8.ofInt 28).toInt32) ((Int8.ofInt 12).toInt32) := by
  intro k h
  unfold ds_vk at h
  rcases h with h | h | h | h | h | h | h | h | h | h | h | h | h | h | h | h | h | h <;> subst h <;> decide
theorem ds_kc_32 : ds_kc ((Int8.ofInt 32).toInt32) ((Int8.ofInt 70).toInt32) := by
  intro k h
  unfold ds_vk at h
  rcases h with h | h | h | h | h | h | h | h | h | h | h | h | h | h | h | h | h | h <;> subst h <;> decide
theorem ds_kc_33 : ds_kc ((Int8.ofInt 33).toInt32) ((Int8.ofInt 71).toInt32) := by
  intro k h
  unfold ds_vk at h
  rcases h with h | h | h | h | h | h | h | h | h | h | h | h | h | h | h | h | h | h <;> subst h <;> decide
theorem ds_kc_34 : ds_kc ((Int8.ofInt 34).toInt32) ((Int8.ofInt 72).toInt32) := by
  intro k h
  unfold ds_vk at h
  rcases h with h | h | h | h | h | h | h | h | h | h | h | h | h | h | h | h | h | h <;> subst h <;> decide
theorem ds_kc_35 : ds_kc ((Int8.ofInt 35).toInt32) ((Int8.ofInt 73).toInt32) := by
  intro k h
  unfold ds_vk at h
  rcases h with h | h | h | h | h | h | h | h | h | h | h | h | h | h | h | h | h | h <;> subst h <;> decide
theorem ds_kc_36 : ds_kc ((Int8.ofInt 36).toInt32) ((Int8.ofInt 74).toInt32) := by
  intro k h
  unfold ds_vk at h
  rcases h with h | h | h | h | h | h | h | h | h | h | h | h | h | h | h | h | h | h <;> subst h <;> decide
theorem ds_kc_37 : ds_kc ((Int8.ofInt 37).toInt32) ((Int8.ofInt 75).toInt32) := by
  intro k h
  unfold ds_vk at h
  rcases h with h | h | h | h | h | h | h | h | h | h | h | h | h | h | h | h | h | h <;> subst h <;> decide
theorem ds_kc_38 : ds_kc ((Int8.ofInt 38).toInt32) ((Int8.ofInt 76).toInt32) := by
  intro k h
  unfold ds_vk at h
  rcases h with h | h | h | h | h | h | h | h | h | h | h | h | h | h | h | h | h | h <;> subst h <;> decide
/-- the reference stands at the token that the class has next -/
def dm_Z (t : Nat → Int32) (ts : List wt_t) (n : Nat) (s : wt_q) (I1 : Nat → Nat → Int32) : Prop := match s.2 with
  | none => I1 460 8 = Int32.ofInt (-1) ∧ ∃ x l e, ts.drop s.1 = x :: l ∧ ds_tk t n x l e ∧ I1 460 3 = ds_mc x.1 ∧ I1 460 4 = Int32.ofNat x.2.1 ∧ I1 460 5 = Int32.ofNat e
  | some z => I1 460 8 = Int32.ofNat z ∧ z ≤ 400
/-- what taking a token leaves alone -/
def dm_F (I I1 : Nat → Nat → Int32) : Prop := ∀ c j, ¬ (c = 460 ∧ (j = 3 ∨ j = 4 ∨ j = 5 ∨ j = 8)) → I1 c j = I c j
theorem dm_F_id (I : Nat → Nat → Int32) : dm_F I I := fun _ _ _ => rfl
theorem dm_F_tr {I J K : Nat → Nat → Int32} (h : dm_F I J) (h2 : dm_F J K) : dm_F I K := fun c j a => by rw [h2 c j a, h c j a]
theorem dm_F_N {I J : Nat → Nat → Int32} (h : wp_NF I J) : dm_F I J := fun c j a => h c j (by omega)
theorem dm_F_bad {I : Nat → Nat → Int32} {w : Int32} : dm_F I (wp_bad w I) := fun c j a => wp_bad_no (by omega)
theorem wp_Y_D {T : wv_T} {I J : Nat → Nat → Int32} {t : Nat → Int32} {n : Nat} (h : wp_Y T I t n) (h2 : J 460 2 = I 460 2) (h1 : ∀ k, J 461 k = I 461 k) : wp_Y T J t n := by
  have hm : wt_m J = wt_m I := by
    funext k
    unfold wt_m
    rw [h2, h1]
  refine ⟨?_, by rw [hm]; exact h.2.1, h.2.2⟩
  have := h.1
  unfold wt_mok at this ⊢
  rw [h2]
  exact this
theorem wp_Y_dF {T : wv_T} {I J : Nat → Nat → Int32} {t : Nat → Int32} {n : Nat} (h : wp_Y T I t n) (hF : dm_F I J) : wp_Y T J t n := wp_Y_D h (hF _ _ (by omega)) (fun k => hF _ _ (by omega))
theorem dm_Z_8 {t : Nat → Int32} {ts : List wt_t} {n : Nat} {s : wt_q} {I1 : Nat → Nat → Int32} (h : dm_Z t ts n s I1) : (0 ≤ I1 460 8 ↔ ¬ s.2 = none) := by
  unfold dm_Z at h
  cases hs : s.2 with
  | none =>
    rw [hs] at h
    rw [h.1]
    exact ⟨fun z => absurd z (by decide), fun z => (z rfl).elim⟩
  | some z =>
    rw [hs] at h
    rw [h.1]
    have := h.2
    exact ⟨fun _ w => (by cases w), fun _ => by rw [wi_le, wi_0, wi_on (by omega)]; omega⟩
/-- the tokens are those of the text -/
def dm_T (t : Nat → Int32) (ts : List wt_t) (n : Nat) : Prop := (∀ x, x ∈ ts → ds_vk x.1) ∧ n ≤ 400
theorem dm_vk {t : Nat → Int32} {ts : List wt_t} {n a : Nat} {x : wt_t} {l : List wt_t} (h : dm_T t ts n) (hd : ts.drop a = x :: l) : ds_vk x.1 := h.1 x (List.mem_of_getElem? (tk_drop hd).1)
def dm_c469 : wv_c1 := fun as T N I L R q => ∃ (t : Nat → Int32) (ts : List wt_t) (n : Nat) (s : wt_q) (K C : Int32), as = [.ref 460, .int C] ∧ wp_Y T I t n ∧ dm_T t ts n ∧ dm_Z t ts n s I ∧ ds_kc K C ∧ ¬ K = 0 ∧ ¬ K = 1 ∧ ¬ K = Int32.ofInt 2 ∧ ∀ I1, dm_Z t ts n (tk_take ts n K s) I1 → dm_F I I1 → q (.inl none) T N I1 L R 0 0
set_option maxRecDepth 100000 in
theorem wM_469 : ∃ cb ci np, pt_mt 469 = some (32, cb, 2, false, none, ci, np) := ⟨_, _, _, rfl⟩
set_option maxRecDepth 100000 in
set_option maxHeartbeats 4000000 in
theorem dm_take {sc : pt_Sc} {d : Nat} : wv_C wm_fx sc (d + 1 + 1 + 1 + 1 + 1) 469 dm_c469 := by
  rintro as T N I L R q ⟨t, ts, n, s, K, C, rfl, hY, hTs, hZ, hkc, hK0, hK1, hK2, h⟩ w0 HR
  obtain ⟨cb, ci, np, hm⟩ := wM_469
  have hc358 : wv_C wm_fx sc (d + 1 + 1 + 1 + 1) 358 wp_c358 := wv_C_deep (by omega) (wp_badC (d := d))
  have hc466 : wv_C wm_fx sc (d + 1 + 1 + 1 + 1) 466 wp_c466 := wv_C_deep (by omega) (wp_nextOfDesign (d := d))
  refine wv_meth (hh := none) rfl (sp := wv_sp [(358, wp_c358), (466, wp_c466)]) (hd := fun _ => none) (n := 0) (n1 := 300) hm zc_469 rfl (wv_sp_ok (fun q hq => by
    rcases List.mem_cons.mp hq with h | h
    · rw [h]; exact hc358
    rw [List.mem_singleton.mp h]; exact hc466)) ?_ (fun pc P h => by cases h) HR
  have h8 := dm_Z_8 hZ
  cases hs : s.2 with
  | some z =>
    have hge : 0 ≤ I 460 8 := h8.mpr (by rw [hs]; exact fun w => by cases w)
    have h2 := h I (by rw [tk_take_some hs hK2]; exact hZ) (dm_F_id _)
    refine ⟨fun _ => ?_, fun w => (w hge).elim⟩
    exact ⟨fun _ => h2, fun w => (w hge).elim⟩
  | none =>
    have hlt : ¬ 0 ≤ I 460 8 := fun w => (h8.mp w) hs
    have hZ2 := hZ
    unfold dm_Z at hZ2
    rw [hs] at hZ2
    obtain ⟨i8, x, l, e, hd, htk, i3, i4, i5⟩ := hZ2
    have hvk := dm_vk hTs hd
    obtain ⟨hta, htd⟩ := tk_drop hd
    have hnow : tk_now ts s = x.1 := tk_now_at hs hta
    refine ⟨fun w => (hlt w).elim, fun _ => ?_⟩
    refine ⟨fun w => ?_, fun w => ?_⟩
    · have hxk : x.1 = K := (hkc _ hvk).mp (by rw [← i3]; exact w)
      have et : tk_take ts n K s = (s.1 + 1, none) := by
        unfold tk_take
        rw [hnow, if_pos hxk, tk_adv_at hs hta]
      obtain ⟨hl, _⟩ := htk.2.2.1 (by rw [hxk]; exact hK0) (by rw [hxk]; exact hK1)
      refine ⟨fun w => (hlt w).elim, fun _ => ?_⟩
      refine ⟨t, n, e, rfl, hY, i5, htk.2.1, fun x2 l2 e2 I1 a1 a2 a3 a4 a5 a6 => ?_⟩
      refine h I1 ?_ (dm_F_N a6)
      rw [et]
      exact ⟨by rw [a6 _ _ (by omega)]; exact i8, x2, l2, e2, by rw [htd, hl]; exact a1, a2, a3, a4, a5⟩
    · have hxk : ¬ x.1 = K := fun z => w (by rw [i3]; exact (hkc _ hvk).mpr z)
      have et : tk_take ts n K s = (s.1, some x.2.1) := by
        unfold tk_take
        rw [hnow, if_neg hxk]
        unfold tk_ref tk_refAt
        rw [hs, tk_place_at hta]
      have hx4 : x.2.1 ≤ 400 := by
        have a1 := htk.1
        have a2 := htk.2.1
        have a3 := hTs.2
        omega
      have h2 := h (wp_bad (I 460 4) I) (by
        rw [et]
        exact ⟨by rw [wp_bad_8 (by rw [i8]; decide)]; exact i4, hx4⟩) dm_F_bad
      have hge : 0 ≤ wp_bad (I 460 4) I 460 8 := by
        rw [wp_bad_8 (by rw [i8]; decide), i4, wi_le, wi_0, wi_on (by omega)]
        omega
      refine ⟨_, rfl, ?_⟩
      exact ⟨fun _ => h2, fun w => (w hge).elim⟩
/-- the reference's names: where they stand, their literals -/
def dm_N (t : Nat → Int32) (n : Nat) (nm : ds_n) (I : Nat → Nat → Int32) : Prop := I 460 100 = Int32.ofNat nm.length ∧ nm.length ≤ 60 ∧ ∀ i x, nm[i]? = some x → ∃ p z, I 527 i = Int32.ofNat p ∧ I 528 i = Int32.ofNat z ∧ I 529 i = x.2 ∧ x.1 = ds_nm t p z ∧ z ≤ 8 ∧ p + z ≤ n ∧ ∀ j, j < z → wt_sml t (p + j) = true
theorem dm_N_F {t : Nat → Int32} {n : Nat} {nm : ds_n} {I J : Nat → Nat → Int32} (h : dm_N t n nm I) (h1 : J 460 100 = I 460 100) (h2 : ∀ c j, (c = 527 ∨ c = 528 ∨ c = 529) → J c j = I c j) : dm_N t n nm J := by
  obtain ⟨n1, n2, n3⟩ := h
  refine ⟨by rw [h1]; exact n1, n2, fun i x hx => ?_⟩
  rw [h2 _ _ (by omega), h2 _ _ (by omega), h2 _ _ (by omega)]
  exact n3 i x hx
theorem dm_N_dF {t : Nat → Int32} {n : Nat} {nm : ds_n} {I J : Nat → Nat → Int32} (h : dm_N t n nm I) (hF : dm_F I J) : dm_N t n nm J := dm_N_F h (hF _ _ (by omega)) (fun c j hc => hF _ _ (by omega))
def dm_l471 (k : Nat) (x2 x3 : Option Value) : List (Option Value) := [some (.ref 460), some (.int (Int32.ofNat k)), x2, x3, none]
def dm_h471 (t : Nat → Int32) (nm : ds_n) (p z : Nat) (T : wv_T) (N : Nat) (I : Nat → Nat → Int32) (L : Nat → Nat → Int64) (R : Nat → Nat → Option Nat) : Nat → Option (Nat → wv_P) := fun pc =>
  if pc = 2 then some (fun m lv st T1 N1 I1 L1 R1 nc ns => ∃ (k : Nat) (x2 x3 : Option Value), lv = dm_l471 k x2 x3 ∧ st = [] ∧ T1 = T ∧ N1 = N ∧ I1 = I ∧ L1 = L ∧ R1 = R ∧ nc = 0 ∧ ns = 0 ∧ k ≤ nm.length ∧ m = 100 * (nm.length - k) ∧ ∀ j y, j < k → nm[j]? = some y → ¬ y.1 = ds_nm t p z)
  else if pc = 36 then some (fun m lv st T1 N1 I1 L1 R1 nc ns => ∃ (k i p2 z2 : Nat) (y : Int64 × Int32) (b : Bool), lv = dm_l471 k (some (.int (wp_b b))) (some (.int (Int32.ofNat i))) ∧ st = [] ∧ T1 = T ∧ N1 = N ∧ I1 = I ∧ L1 = L ∧ R1 = R ∧ nc = 0 ∧ ns = 0 ∧ k < nm.length ∧ i ≤ z2 ∧ m = 100 * (nm.length - k) - 1 - i ∧ (∀ j y, j < k → nm[j]? = some y → ¬ y.1 = ds_nm t p z) ∧ nm[k]? = some y ∧ I 527 k = Int32.ofNat p2 ∧ I 528 k = Int32.ofNat z2 ∧ y.1 = ds_nm t p2 z2 ∧ z2 ≤ 8 ∧ p2 + z2 ≤ 400 ∧ (∀ j, j < z2 → wt_sml t (p2 + j) = true) ∧ (b = true ↔ (z2 = z ∧ ∀ j, j < i → t (p2 + j) = t (p + j))))
  else none
def dm_c471 : wv_c1 := fun as T N I L R q => ∃ (t : Nat → Int32) (n : Nat) (nm : ds_n) (p z : Nat), as = [.ref 460] ∧ wm_T T ∧ wp_Y T I t n ∧ dm_N t n nm I ∧ I 460 4 = Int32.ofNat p ∧ I 460 5 = Int32.ofNat (p + z) ∧ p + z ≤ n ∧ z ≤ 8 ∧ (∀ j, j < z → wt_sml t (p + j) = true) ∧ q (.inl (some (.int (wt_f (ds_ix nm (ds_nm t p z)))))) T N I L R 0 0
set_option maxRecDepth 100000 in
theorem wM_471 : ∃ cb ci np, pt_mt 471 = some (32, cb, 4, false, some .int, ci, np) := ⟨_, _, _, rfl⟩
set_option maxRecDepth 100000 in
set_option maxHeartbeats 2000000 in
theorem dm_told {sc : pt_Sc} {d : Nat} : wv_C wm_fx sc (d + 1 + 1) 471 dm_c471 := by
  rintro as T N I L R q ⟨t, n, nm, p, z, rfl, hT, hY, hN, i4, i5, hpz, hz8, hsm, h⟩ w0 HR
  obtain ⟨cb, ci, np, hm⟩ := wM_471
  have hc349 : wv_C wm_fx sc (d + 1) 349 wp_c349 := wv_C_deep (by omega) (wp_at (d := d))
  refine wv_meth (hh := none) rfl (sp := wv_sp [(349, wp_c349)]) (hd := dm_h471 t nm p z T N I L R) (n := 300) (n1 := 300) hm zc_471 rfl (wv_sp_ok (fun q hq => by rw [List.mem_singleton.mp hq]; exact hc349)) ?_ ?_ HR
  · exact ⟨100 * nm.length, 0, none, none, rfl, rfl, rfl, rfl, rfl, rfl, rfl, rfl, rfl, Nat.zero_le _, by rw [Nat.sub_zero], fun j y hj => by omega⟩
  · intro pc P hP m lv st T1 N1 I1 L1 R1 nc ns hh
    obtain ⟨n1, n2, n3⟩ := hN
    have hn4 := hY.2.2.1
    have hsub : I 460 5 - I 460 4 = Int32.ofNat z := by
      rw [i4, i5]
      apply wi_eq.mpr
      rw [wi_sub, wi_on (by omega), wi_on (by omega), wi_on (by omega), wr_id (by omega) (by omega)]
      omega
    unfold dm_h471 at hP
    split at hP
    · cases hP
      rename_i hpc
      subst hpc
      obtain ⟨k, x2, x3, rfl, rfl, rfl, rfl, rfl, rfl, rfl, rfl, rfl, hk, hm, hj⟩ := hh
      have ek := wi_on (n := k) (by omega)
      have en := wi_onn (n := k) (by omega)
      have el := wi_on (n := nm.length) (by omega)
      refine ⟨fun h1 => ?_, fun h1 => ?_⟩
      · have e : k = nm.length := by rw [n1, wi_le, ek, el] at h1; omega
        have hx : ds_ix nm (ds_nm t p z) = none := ds_ix_none _ nm (fun y hy => by
          obtain ⟨j, hjl, hje⟩ := List.mem_iff_getElem.mp hy
          exact hj j y (by omega) (by rw [List.getElem?_eq_getElem hjl, hje]))
        rw [hx] at h
        exact h
      · have hlt : k < nm.length := by rw [n1, wi_le, ek, el] at h1; omega
        have hx : nm[k]? = some nm[k] := List.getElem?_eq_getElem hlt
        obtain ⟨p2, z2, a1, a2, a3, a4, a5, a6, a7⟩ := n3 k _ hx
        have bk : 0 ≤ Int32.ofNat k ∧ (Int32.ofNat k).toInt < (70 : Nat) := ⟨by rw [wi_le, ek, wi_0]; omega, by rw [ek]; omega⟩
        refine ⟨_, wm_t hT rfl, bk, ?_⟩
        rw [en, a2]
        have hzz : Int32.ofNat z2 = I1 460 5 - I1 460 4 ↔ z2 = z := by
          rw [hsub]
          constructor
          · intro e
            have := wi_eq.mp e
            rw [wi_on (by omega), wi_on (by omega)] at this
            omega
          · intro e
            rw [e]
        refine ⟨fun y => ?_, fun y => ?_⟩
        · exact ⟨100 * (nm.length - k) - 1 - 0, by omega, k, 0, p2, z2, _, false, rfl, rfl, rfl, rfl, rfl, rfl, rfl, rfl, rfl, hlt, Nat.zero_le _, rfl, hj, hx, a1, a2, a4, a5, by omega, a7, ⟨fun w => (by cases w), fun w => (y (hzz.mpr w.1)).elim⟩⟩
        · exact ⟨100 * (nm.length - k) - 1 - 0, by omega, k, 0, p2, z2, _, true, rfl, rfl, rfl, rfl, rfl, rfl, rfl, rfl, rfl, hlt, Nat.zero_le _, rfl, hj, hx, a1, a2, a4, a5, by omega, a7, ⟨fun _ => ⟨hzz.mp (Decidable.not_not.mp y), fun j hj => by omega⟩, fun _ => rfl⟩⟩
    · split at hP
      · cases hP
        rename_i hpc0 hpc
        subst hpc
        obtain ⟨k, i, p2, z2, y, b, rfl, rfl, rfl, rfl, rfl, rfl, rfl, rfl, rfl, hk, hi, hm, hj, hy, a1, a2, a4, a5, a6, a7, hb⟩ := hh
        have ek := wi_on (n := k) (by omega)
        have en := wi_onn (n := k) (by omega)
        have ei := wi_on (n := i) (by omega)
        have bk : 0 ≤ Int32.ofNat k ∧ (Int32.ofNat k).toInt < (70 : Nat) := ⟨by rw [wi_le, ek, wi_0]; omega, by rw [ek]; omega⟩
        refine ⟨_, wm_t hT rfl, bk, ?_⟩
        rw [en, a2]
        refine ⟨fun h1 => ?_, fun h1 => ?_⟩
        · have e : i = z2 := by rw [wi_le, ei, wi_on (by omega)] at h1; omega
          subst e
          refine ⟨fun w => ?_, fun w => ?_⟩
          · have hbf := wp_b0 w
            have hne : ¬ y.1 = ds_nm t p z := by
              intro hc
              rw [a4] at hc
              have := (ds_nm_eq a5 hz8 a7 hsm).mp hc
              have hbt := hb.mpr ⟨this.1, this.2⟩
              rw [hbf] at hbt
              cases hbt
            refine ⟨100 * (nm.length - (k + 1)), by omega, k + 1, _, _, by unfold dm_l471; rw [← wq_4s]; rfl, rfl, rfl, rfl, rfl, rfl, rfl, rfl, rfl, by omega, rfl, ?_⟩
            intro j w2 hjk hw
            by_cases e : j = k
            · subst e
              rw [hy] at hw
              cases hw
              exact hne
            · exact hj j w2 (by omega) hw
          · have hbt := hb.mp (wp_b1 w)
            have hc : y.1 = ds_nm t p z := by
              rw [a4]
              exact (ds_nm_eq a5 hz8 a7 hsm).mpr ⟨hbt.1, hbt.2⟩
            rw [ds_ix_k _ nm k y hy hc hj] at h
            exact h
        · have hlt : i < z2 := by rw [wi_le, ei, wi_on (by omega)] at h1; omega
          have go : ∀ (b2 : Bool) (v : Int32), v = wp_b b2 → (b2 = true ↔ (z2 = z ∧ ∀ j, j < i + 1 → t (p2 + j) = t (p + j))) → ∃ m1, m1 < m ∧ ∃ (k1 i1 p3 z3 : Nat) (y1 : Int64 × Int32) (b1 : Bool), dm_l471 k (some (.int v)) (some (.int (Int32.ofNat i + Int32.ofInt 1))) = dm_l471 k1 (some (.int (wp_b b1))) (some (.int (Int32.ofNat i1))) ∧ ([] : List Value) = [] ∧ T1 = T1 ∧ N1 = N1 ∧ I1 = I1 ∧ L1 = L1 ∧ R1 = R1 ∧ 0 = 0 ∧ 0 = 0 ∧ k1 < nm.length ∧ i1 ≤ z3 ∧ m1 = 100 * (nm.length - k1) - 1 - i1 ∧ (∀ j y, j < k1 → nm[j]? = some y → ¬ y.1 = ds_nm t p z) ∧ nm[k1]? = some y1 ∧ I1 527 k1 = Int32.ofNat p3 ∧ I1 528 k1 = Int32.ofNat z3 ∧ y1.1 = ds_nm t p3 z3 ∧ z3 ≤ 8 ∧ p3 + z3 ≤ 400 ∧ (∀ j, j < z3 → wt_sml t (p3 + j) = true) ∧ (b1 = true ↔ (z3 = z ∧ ∀ j, j < i1 → t (p3 + j) = t (p + j))) := by
            intro b2 v hv hb2
            exact ⟨100 * (nm.length - k) - 1 - (i + 1), by omega, k, i + 1, p2, z2, y, b2, by rw [hv, wq_4s], rfl, rfl, rfl, rfl, rfl, rfl, rfl, rfl, hk, by omega, rfl, hj, hy, a1, a2, a4, a5, a6, a7, hb2⟩
          refine ⟨fun w => ?_, fun w => ?_⟩
          · refine go false _ rfl ⟨fun z => (by cases z), fun z => ?_⟩
            have := hb.mpr ⟨z.1, fun j hj2 => z.2 j (by omega)⟩
            rw [wp_b0 w] at this
            exact this
          · have hbt := hb.mp (wp_b1 w)
            refine ⟨_, wm_t hT rfl, bk, ?_⟩
            rw [en, a1]
            refine ⟨p2 + i, congrArg (fun x => [Value.ref 460, Value.int x]) (wi_ona p2 i), by omega, hY.1, ?_⟩
            refine ⟨p + i, congrArg (fun x => [Value.ref 460, Value.int x]) (by rw [i4]; exact wi_ona p i), by omega, hY.1, ?_⟩
            rw [hY.2.1]
            refine ⟨fun w2 => ?_, fun w2 => ?_⟩
            · exact go false _ rfl ⟨fun z => (by cases z), fun z => (w2 (z.2 i (by omega))).elim⟩
            · refine go true _ rfl ⟨fun _ => ⟨hbt.1, fun j hj2 => ?_⟩, fun _ => rfl⟩
              by_cases e : j = i
              · rw [e]; exact Decidable.not_not.mp w2
              · exact hbt.2 j (by omega)
      · cases hP
