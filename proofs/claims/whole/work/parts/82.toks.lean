/-! ===== the tokens: adding them ===== -/
def wt_A (I : Nat → Nat → Int32) (L : Nat → Nat → Int64) (I1 : Nat → Nat → Int32) (L1 : Nat → Nat → Int64) : Prop := (∀ c j, ¬ (c = 1 ∧ (j = 7 ∨ j = 8 ∨ j = 9)) → ¬ (3 ≤ c ∧ c ≤ 6) → I1 c j = I c j) ∧ ∀ c j, ¬ c = 7 → L1 c j = L c j
theorem wt_A_id (I : Nat → Nat → Int32) (L : Nat → Nat → Int64) : wt_A I L I L := ⟨fun _ _ _ _ => rfl, fun _ _ _ => rfl⟩
theorem wt_A_tr {I J K : Nat → Nat → Int32} {L M P : Nat → Nat → Int64} (h : wt_A I L J M) (h2 : wt_A J M K P) : wt_A I L K P := ⟨fun c j a b => by rw [h2.1 c j a b, h.1 c j a b], fun c j a => by rw [h2.2 c j a, h.2 c j a]⟩
theorem wt_A_c {I J : Nat → Nat → Int32} {L M : Nat → Nat → Int64} (h : wt_A I L J M) : wt_c J = wt_c I := by
  funext k
  unfold wt_c
  rw [h.1 1 6 (by omega) (by omega), h.1 2 k (by omega) (by omega)]
theorem wt_A_6 {I J : Nat → Nat → Int32} {L M : Nat → Nat → Int64} (h : wt_A I L J M) : J 1 6 = I 1 6 := h.1 1 6 (by omega) (by omega)
theorem wt_A_ok {T : wv_T} {I J : Nat → Nat → Int32} {L M : Nat → Nat → Int64} (h : wt_A I L J M) (k : wt_ok T I) : wt_ok T J := by
  unfold wt_ok at k ⊢
  rw [wt_A_6 h]
  exact k
theorem wt_A_s {T : wv_T} {I J : Nat → Nat → Int32} {L M : Nat → Nat → Int64} {R : Nat → Nat → Option Nat} {s a : Nat} {w : List Nat} (h : wt_A I L J M) (hs : 6 < s) (ha : 6 < a) (k : wt_s T I R s a w) : wt_s T J R s a w := by
  obtain ⟨k1, k2, k3, k4, k5, k6⟩ := k
  refine ⟨k1, k2, by rw [h.1 _ _ (by omega) (by omega)]; exact k3, k4, k5, fun i c hc => by rw [h.1 _ _ (by omega) (by omega)]; exact k6 i c hc⟩
theorem wt_K_ok {T : wv_T} {I : Nat → Nat → Int32} {L : Nat → Nat → Int64} {ts : List wt_t} {n a : Nat} {f : Option Nat} (hT : wm_T T) (h : wt_K I L ts n a f) : wt_ok T I := by
  have h2 := h.2.1
  refine ⟨hT, ?_, ?_⟩
  · rw [h.1, wi_on (by omega)]; omega
  · rw [h.1, wi_on (by omega)]; omega
def wt_c23 : wv_c1 := fun as T N I L R q => ∃ n : Nat, as = [.ref 1] ∧ I 1 6 = Int32.ofNat n ∧ n ≤ 400 ∧ ∀ I1, wt_K I1 L [] n 0 none → wt_A I L I1 L → q (.inl none) T N I1 L R 0 0
set_option maxRecDepth 100000 in
theorem wM_23 : ∃ cb ci np, pt_mt 23 = some (2, cb, 1, false, none, ci, np) := ⟨_, _, _, rfl⟩
set_option maxRecDepth 100000 in
set_option maxHeartbeats 4000000 in
theorem wt_restart {sc : pt_Sc} {d : Nat} : wv_C wm_fx sc (d + 1) 23 wt_c23 := by
  rintro as T N I L R q ⟨n, rfl, h6, hn, h⟩ w0 HR
  obtain ⟨cb, ci, np, hm⟩ := wM_23
  refine wv_meth (hh := none) rfl (sp := fun _ _ _ _ _ _ _ _ => False) (hd := fun _ => none) (n := 0) (n1 := 300) hm zc_23 rfl (fun k as T N I L R q h => by cases h) ?_ (fun pc P h => by cases h) HR
  have hk : wt_K (wv_u (wv_u (wv_u I 1 7 (Int32.ofInt 0)) 1 8 (Int32.ofInt 0)) 1 9 (Int32.ofInt (-1))) L [] n 0 none := by
    refine ⟨?_, hn, ?_, by decide, ?_, by decide, ?_, ?_, ?_⟩
    · rw [wv_u_no _ _ (by omega), wv_u_no _ _ (by omega), wv_u_no _ _ (by omega)]; exact h6
    · rw [wv_u_no _ _ (by omega), wv_u_no _ _ (by omega), wv_u_at]; rfl
    · rw [wv_u_no _ _ (by omega), wv_u_at]; rfl
    · rw [wv_u_at]; rfl
    · intro z hz
      cases hz
    · intro i t ht
      simp at ht
  have ha : wt_A I L (wv_u (wv_u (wv_u I 1 7 (Int32.ofInt 0)) 1 8 (Int32.ofInt 0)) 1 9 (Int32.ofInt (-1))) L := ⟨fun c j a b => by rw [wv_u_no _ _ (by omega), wv_u_no _ _ (by omega), wv_u_no _ _ (by omega)], fun _ _ _ => rfl⟩
  exact h _ hk ha
/-- a token more -/
def wt_add (k : Int32) (p lo hi : Int32) (x : Nat) (I : Nat → Nat → Int32) : Nat → Nat → Int32 := wv_u (wv_u (wv_u (wv_u (wv_u I 3 x k) 4 x p) 5 x lo) 6 x hi) 1 7 (Int32.ofNat x + Int32.ofInt 1)
theorem wt_add_K {I : Nat → Nat → Int32} {L : Nat → Nat → Int64} {ts : List wt_t} {n a : Nat} {f : Option Nat} {k lo hi : Int32} {p : Nat} (h : wt_K I L ts n a f) (hl : ts.length < 401) (hp : p ≤ 400) : wt_K (wt_add k (Int32.ofNat p) lo hi ts.length I) (wv_u L 7 ts.length 0) (ts ++ [(k, p, lo, hi, 0)]) n a f := by
  obtain ⟨k1, k2, k3, k4, k5, k6, k7, k8, k9⟩ := h
  have u : ∀ j, ¬ j = 7 → wt_add k (Int32.ofNat p) lo hi ts.length I 1 j = I 1 j := fun j hj => by
    unfold wt_add
    rw [wv_u_no _ _ (fun z => hj z.2), wv_u_no _ _ (by omega), wv_u_no _ _ (by omega), wv_u_no _ _ (by omega), wv_u_no _ _ (by omega)]
  have el : (ts ++ [((k, p, lo, hi, 0) : wt_t)]).length = ts.length + 1 := by rw [List.length_append]; rfl
  refine ⟨by rw [u 6 (by decide)]; exact k1, k2, ?_, by rw [el]; omega, by rw [u 8 (by decide)]; exact k5, by rw [el]; omega, by rw [u 9 (by decide)]; exact k7, k8, ?_⟩
  · rw [el]
    unfold wt_add
    rw [wv_u_at]
    exact wq_4s _
  · intro i t ht
    by_cases hi : i < ts.length
    · rw [List.getElem?_append_left hi] at ht
      have := k9 i t ht
      unfold wt_add
      rw [wv_u_no _ _ (by omega), wv_u_no _ _ (by omega), wv_u_no _ _ (by omega), wv_u_no _ _ (by omega), wv_u_no _ _ (by omega)]
      rw [wv_u_no _ _ (by omega), wv_u_no _ _ (by omega), wv_u_no _ _ (by omega), wv_u_no _ _ (by omega), wv_u_no _ _ (by omega)]
      rw [wv_u_no _ _ (by omega), wv_u_no _ _ (by omega), wv_u_no _ _ (by omega), wv_u_no _ _ (by omega), wv_u_no _ _ (by omega)]
      rw [wv_u_no _ _ (by omega), wv_u_no _ _ (by omega), wv_u_no _ _ (by omega), wv_u_no _ _ (by omega), wv_u_no _ _ (by omega)]
      rw [wv_u_no _ _ (by omega)]
      exact this
    · have hi2 : i = ts.length := by
        have := (List.getElem?_eq_some_iff.mp ht).1
        rw [el] at this
        omega
      subst hi2
      rw [List.getElem?_append_right (Nat.le_refl _), Nat.sub_self] at ht
      cases ht
      refine ⟨⟨?_, ?_, ?_, ?_, wv_u_at _ _ _ _⟩, hp⟩
      · unfold wt_add
        rw [wv_u_no _ _ (by omega), wv_u_no _ _ (by omega), wv_u_no _ _ (by omega), wv_u_no _ _ (by omega), wv_u_at]
      · unfold wt_add
        rw [wv_u_no _ _ (by omega), wv_u_no _ _ (by omega), wv_u_no _ _ (by omega), wv_u_at]
      · unfold wt_add
        rw [wv_u_no _ _ (by omega), wv_u_no _ _ (by omega), wv_u_at]
      · unfold wt_add
        rw [wv_u_no _ _ (by omega), wv_u_at]
theorem wt_add_A {I : Nat → Nat → Int32} {L : Nat → Nat → Int64} {k p lo hi : Int32} {x : Nat} : wt_A I L (wt_add k p lo hi x I) (wv_u L 7 x 0) := by
  refine ⟨fun c j a b => ?_, fun c j a => wv_u_no _ _ (by omega)⟩
  unfold wt_add
  rw [wv_u_no _ _ (by omega), wv_u_no _ _ (by omega), wv_u_no _ _ (by omega), wv_u_no _ _ (by omega), wv_u_no _ _ (by omega)]
def wt_c28 : wv_c1 := fun as T N I L R q => ∃ (ts : List wt_t) (n : Nat) (s : Nat × Option Nat) (k lo hi : Int32) (p z : Nat), as = [.ref 1, .int k, .int (Int32.ofNat p), .int (Int32.ofNat z), .int lo, .int hi] ∧ wm_T T ∧ wt_K I L ts n s.1 s.2 ∧ ts.length < 401 ∧ p ≤ 400 ∧ ∀ I1 L1, wt_K I1 L1 (ts ++ [(k, p, lo, hi, 0)]) n s.1 s.2 → wt_A I L I1 L1 → q (.inl (some (.int (Int32.ofNat (p + z))))) T N I1 L1 R 0 0
set_option maxRecDepth 100000 in
theorem wM_28 : ∃ cb ci np, pt_mt 28 = some (2, cb, 6, false, some .int, ci, np) := ⟨_, _, _, rfl⟩
set_option maxRecDepth 100000 in
set_option maxHeartbeats 4000000 in
theorem wt_addCounted {sc : pt_Sc} {d : Nat} : wv_C wm_fx sc (d + 1) 28 wt_c28 := by
  rintro as T N I L R q ⟨ts, n, s, k, lo, hi, p, z, rfl, hT, hK, hl, hp, h⟩ w0 HR
  obtain ⟨cb, ci, np, hm⟩ := wM_28
  refine wv_meth (hh := none) rfl (sp := fun _ _ _ _ _ _ _ _ => False) (hd := fun _ => none) (n := 0) (n1 := 300) hm zc_28 rfl (fun k as T N I L R q h => by cases h) ?_ (fun pc P h => by cases h) HR
  have k3 := hK.2.2.1
  have e7 := wi_on (n := ts.length) (by omega)
  have n7 := wi_onn (n := ts.length) (by omega)
  have e401 : ((Int16.ofInt 401).toInt32).toInt = 401 := rfl
  have bd : 0 ≤ I 1 7 ∧ (I 1 7).toInt < (401 : Nat) := by rw [k3]; exact ⟨by rw [wi_le, e7, wi_0]; omega, by rw [e7]; omega⟩
  have h2 := h _ _ (wt_add_K (k := k) (lo := lo) (hi := hi) hK hl hp) wt_add_A
  rw [← wi_ona] at h2
  refine ⟨fun h1 => ?_, fun h1 => ?_⟩
  · rw [k3, wi_le, e7, e401] at h1
    omega
  refine ⟨_, wm_t hT rfl, bd, by decide, ?_⟩
  refine ⟨_, wm_t hT rfl, bd, by decide, ?_⟩
  refine ⟨_, wm_t hT rfl, bd, by decide, ?_⟩
  refine ⟨_, wm_t hT rfl, bd, by decide, ?_⟩
  refine ⟨_, wm_t hT rfl, bd, by decide, ?_⟩
  have hX : ∀ (x : Int32) (y : Nat), x = Int32.ofNat ts.length → y = ts.length → q (.inl (some (.int (Int32.ofNat p + Int32.ofNat z)))) T N (wv_u (wv_u (wv_u (wv_u (wv_u I 3 y k) 4 y (Int32.ofNat p)) 5 y lo) 6 y hi) 1 7 (x + Int32.ofInt 1)) (wv_u L 7 y 0) R 0 0 := by
    rintro x y rfl rfl
    exact h2
  exact hX (I 1 7) (I 1 7).toNatClampNeg k3 (by rw [k3, n7])
def wt_c27 : wv_c1 := fun as T N I L R q => ∃ (ts : List wt_t) (n : Nat) (s : Nat × Option Nat) (k : Int32) (p z : Nat), as = [.ref 1, .int k, .int (Int32.ofNat p), .int (Int32.ofNat z)] ∧ wm_T T ∧ wt_K I L ts n s.1 s.2 ∧ ts.length < 401 ∧ p ≤ 400 ∧ ∀ I1 L1, wt_K I1 L1 (ts ++ [(k, p, Int32.ofInt 0, Int32.ofInt 0, 0)]) n s.1 s.2 → wt_A I L I1 L1 → q (.inl (some (.int (Int32.ofNat (p + z))))) T N I1 L1 R 0 0
set_option maxRecDepth 100000 in
theorem wM_27 : ∃ cb ci np, pt_mt 27 = some (2, cb, 4, false, some .int, ci, np) := ⟨_, _, _, rfl⟩
set_option maxRecDepth 100000 in
set_option maxHeartbeats 4000000 in
theorem wt_addT {sc : pt_Sc} {d : Nat} : wv_C wm_fx sc (d + 1 + 1) 27 wt_c27 := by
  rintro as T N I L R q ⟨ts, n, s, k, p, z, rfl, hT, hK, hl, hp, h⟩ w0 HR
  obtain ⟨cb, ci, np, hm⟩ := wM_27
  have hc28 : wv_C wm_fx sc (d + 1) 28 wt_c28 := wv_C_deep (by omega) (wt_addCounted (d := d))
  refine wv_meth (hh := none) rfl (sp := wv_sp [(28, wt_c28)]) (hd := fun _ => none) (n := 0) (n1 := 300) hm zc_27 rfl (wv_sp_ok (fun q hq => by rw [List.mem_singleton.mp hq]; exact hc28)) ?_ (fun pc P h => by cases h) HR
  exact ⟨ts, n, s, k, _, _, p, z, rfl, hT, hK, hl, hp, fun I1 L1 a b => h I1 L1 a b⟩
def wt_c32 : wv_c1 := fun as T N I L R q => ∃ (ts : List wt_t) (n : Nat) (s : Nat × Option Nat) (p : Nat), as = [.ref 1, .int (Int32.ofNat p)] ∧ wm_T T ∧ wt_K I L ts n s.1 s.2 ∧ ts.length < 401 ∧ p ≤ 400 ∧ ∀ I1 L1, wt_K I1 L1 (ts ++ [(Int32.ofInt 1, p, Int32.ofInt 0, Int32.ofInt 0, 0)]) n s.1 s.2 → wt_A I L I1 L1 → q (.inl (some (.int (Int32.ofNat n)))) T N I1 L1 R 0 0
set_option maxRecDepth 100000 in
theorem wM_32 : ∃ cb ci np, pt_mt 32 = some (2, cb, 2, false, some .int, ci, np) := ⟨_, _, _, rfl⟩
set_option maxRecDepth 100000 in
set_option maxHeartbeats 4000000 in
theorem wt_addBad {sc : pt_Sc} {d : Nat} : wv_C wm_fx sc (d + 1 + 1) 32 wt_c32 := by
  rintro as T N I L R q ⟨ts, n, s, p, rfl, hT, hK, hl, hp, h⟩ w0 HR
  obtain ⟨cb, ci, np, hm⟩ := wM_32
  have hc28 : wv_C wm_fx sc (d + 1) 28 wt_c28 := wv_C_deep (by omega) (wt_addCounted (d := d))
  refine wv_meth (hh := none) rfl (sp := wv_sp [(28, wt_c28)]) (hd := fun _ => none) (n := 0) (n1 := 300) hm zc_32 rfl (wv_sp_ok (fun q hq => by rw [List.mem_singleton.mp hq]; exact hc28)) ?_ (fun pc P h => by cases h) HR
  refine ⟨ts, n, s, _, _, _, p, 0, rfl, hT, hK, hl, hp, fun I1 L1 a b => ?_⟩
  have h2 := h I1 L1 a b
  rw [← a.1] at h2
  exact h2
def wt_c47 : wv_c1 := fun as T N I L R q => ∃ (ts : List wt_t) (n : Nat) (s : Nat × Option Nat), as = [.ref 1] ∧ wm_T T ∧ wt_K I L ts n s.1 s.2 ∧ ts.length < 401 ∧ ∀ I1 L1, wt_K I1 L1 (ts ++ [(Int32.ofInt 0, n, Int32.ofInt 0, Int32.ofInt 0, 0)]) n s.1 s.2 → wt_A I L I1 L1 → q (.inl none) T N I1 L1 R 0 0
set_option maxRecDepth 100000 in
theorem wM_47 : ∃ cb ci np, pt_mt 47 = some (2, cb, 1, false, none, ci, np) := ⟨_, _, _, rfl⟩
set_option maxRecDepth 100000 in
set_option maxHeartbeats 4000000 in
theorem wt_finish {sc : pt_Sc} {d : Nat} : wv_C wm_fx sc (d + 1 + 1 + 1) 47 wt_c47 := by
  rintro as T N I L R q ⟨ts, n, s, rfl, hT, hK, hl, h⟩ w0 HR
  obtain ⟨cb, ci, np, hm⟩ := wM_47
  have hc27 : wv_C wm_fx sc (d + 1 + 1) 27 wt_c27 := wv_C_deep (by omega) (wt_addT (d := d))
  refine wv_meth (hh := none) rfl (sp := wv_sp [(27, wt_c27)]) (hd := fun _ => none) (n := 0) (n1 := 300) hm zc_47 rfl (wv_sp_ok (fun q hq => by rw [List.mem_singleton.mp hq]; exact hc27)) ?_ (fun pc P h => by cases h) HR
  exact ⟨ts, n, s, _, n, 0, congrArg (fun x => [Value.ref 1, Value.int (Int32.ofInt 0), Value.int x, Value.int (Int32.ofInt 0)]) hK.1, hT, hK, hl, hK.2.1, fun I1 L1 a b => h I1 L1 a b⟩
