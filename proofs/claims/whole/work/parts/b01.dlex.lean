/-! ===== tokens of a design text ===== -/
/-- small letters from p on, at most r -/
def wt_wl (t : Nat → Int32) : Nat → Nat → Nat
  | _, 0 => 0
  | p, r + 1 => if wt_sml t p = true then wt_wl t (p + 1) r + 1 else 0
theorem wt_wl_le (t : Nat → Int32) : ∀ r p, wt_wl t p r ≤ r
  | 0, _ => Nat.le_refl _
  | r + 1, p => by
    unfold wt_wl
    split
    · have := wt_wl_le t r (p + 1)
      omega
    · omega
def wt_h31 (p : Nat) (T : wv_T) (N : Nat) (I : Nat → Nat → Int32) (L : Nat → Nat → Int64) (R : Nat → Nat → Option Nat) : Nat → Option (Nat → wv_P) := fun pc =>
  if pc = 2 then some (fun m lv st T1 N1 I1 L1 R1 nc ns => ∃ k : Nat, lv = [some (.ref 1), some (.int (Int32.ofNat p)), some (.int (Int32.ofNat k)), none, none] ∧ st = [] ∧ T1 = T ∧ N1 = N ∧ I1 = I ∧ L1 = L ∧ R1 = R ∧ nc = 0 ∧ ns = 0 ∧ k ≤ 400 ∧ m = 400 - k ∧ k + wt_wl (wt_c I) (p + k) (400 - k) = wt_wl (wt_c I) p 400)
  else none
def wt_c31 : wv_c1 := fun as T N I L R q => ∃ p : Nat, as = [.ref 1, .int (Int32.ofNat p)] ∧ p < 1000000000 ∧ wt_ok T I ∧ q (.inl (some (.int (Int32.ofNat (wt_wl (wt_c I) p 400))))) T N I L R 0 0
set_option maxRecDepth 100000 in
theorem wM_31 : ∃ cb ci np, pt_mt 31 = some (2, cb, 3, false, some .int, ci, np) := ⟨_, _, _, rfl⟩
set_option maxRecDepth 100000 in
set_option maxHeartbeats 4000000 in
theorem wt_wordLength {sc : pt_Sc} {d : Nat} : wv_C wm_fx sc (d + 1 + 1 + 1) 31 wt_c31 := by
  rintro as T N I L R q ⟨p, rfl, hp, hk, h⟩ w0 HR
  obtain ⟨cb, ci, np, hm⟩ := wM_31
  have hc29 : wv_C wm_fx sc (d + 1 + 1) 29 wt_c29 := wv_C_deep (by omega) (wt_isSmall (d := d))
  refine wv_meth (hh := none) rfl (sp := wv_sp [(29, wt_c29)]) (hd := wt_h31 p T N I L R) (n := 300) (n1 := 300) hm zc_31 rfl (wv_sp_ok (fun q hq => by rw [List.mem_singleton.mp hq]; exact hc29)) ?_ ?_ HR
  · exact ⟨400, 0, rfl, rfl, rfl, rfl, rfl, rfl, rfl, rfl, rfl, Nat.zero_le _, rfl, by rw [Nat.zero_add]; rfl⟩
  · intro pc P hP m lv st T1 N1 I1 L1 R1 nc ns hh
    unfold wt_h31 at hP
    split at hP
    · cases hP
      rename_i hpc
      subst hpc
      obtain ⟨k, rfl, rfl, rfl, rfl, rfl, rfl, rfl, rfl, rfl, hk4, hm, hr⟩ := hh
      have ek := wi_on (n := k) (by omega)
      have e400 : ((Int16.ofInt 400).toInt32).toInt = 400 := rfl
      refine ⟨fun h1 => ?_, fun h1 => ?_⟩
      · have e : k = 400 := by rw [wi_le, ek, e400] at h1; omega
        have e2 : k = wt_wl (wt_c I1) p 400 := by rw [e, Nat.sub_self] at hr; rw [← hr, e]; rfl
        rw [← e2] at h
        exact h
      · have hk3 : k < 400 := by rw [wi_le, ek, e400] at h1; omega
        have hs : 400 - k = (399 - k) + 1 := by omega
        rw [hs] at hr
        have hr : k + (if wt_sml (wt_c I1) (p + k) = true then wt_wl (wt_c I1) (p + k + 1) (399 - k) + 1 else 0) = wt_wl (wt_c I1) p 400 := hr
        refine ⟨p + k, congrArg (fun x => [Value.ref 1, Value.int x]) (wi_ona p k), by omega, hk, ?_⟩
        refine ⟨fun h2 => ?_, fun h2 => ?_⟩
        · rw [if_neg (fun z => by rw [z] at h2; cases h2)] at hr
          have e2 : k = wt_wl (wt_c I1) p 400 := by omega
          rw [← e2] at h
          exact h
        · have hd : wt_sml (wt_c I1) (p + k) = true := by
            cases hx : wt_sml (wt_c I1) (p + k) with
            | true => rfl
            | false => rw [hx] at h2; exact (h2 rfl).elim
          rw [if_pos hd] at hr
          refine ⟨400 - (k + 1), by omega, k + 1, by rw [← wq_4s]; rfl, rfl, rfl, rfl, rfl, rfl, rfl, rfl, rfl, by omega, rfl, ?_⟩
          rw [show 400 - (k + 1) = 399 - k by omega, show p + (k + 1) = p + k + 1 by omega]
          omega
    · cases hP
def wt_c33 : wv_c1 := fun as T N I L R q => ∃ (p z s a : Nat) (w : List Nat), as = [.ref 1, .int (Int32.ofNat p), .int (Int32.ofNat z), .ref s] ∧ p < 1000000000 ∧ z ≤ 400 ∧ wt_ok T I ∧ wt_s T I R s a w ∧ q (.inl (some (.int (wp_b (decide (z = w.length) && wt_rd (wt_c I) p w))))) T N I L R 0 0
set_option maxRecDepth 100000 in
theorem wM_33 : ∃ cb ci np, pt_mt 33 = some (2, cb, 4, false, some .boolean, ci, np) := ⟨_, _, _, rfl⟩
set_option maxRecDepth 100000 in
set_option maxHeartbeats 4000000 in
theorem wt_isWord {sc : pt_Sc} {d : Nat} (hf : wt_fv sc) : wv_C wm_fx sc (d + 1 + 1 + 1 + 1 + 1 + 1) 33 wt_c33 := by
  rintro as T N I L R q ⟨p, z, s, a, w, rfl, hp, hz, hk, hs, h⟩ w0 HR
  obtain ⟨cb, ci, np, hm⟩ := wM_33
  have hc34 : wv_C wm_fx sc (d + 1 + 1 + 1 + 1 + 1) 34 wt_c34 := wv_C_deep (by omega) (wt_length (d := d))
  have hc36 : wv_C wm_fx sc (d + 1 + 1 + 1 + 1 + 1) 36 wt_c36 := wv_C_deep (by omega) (wt_reads hf (d := d))
  refine wv_meth (hh := none) rfl (sp := wv_sp [(34, wt_c34), (36, wt_c36)]) (hd := fun _ => none) (n := 0) (n1 := 300) hm zc_33 rfl (wv_sp_ok (fun q hq => by
    rcases List.mem_cons.mp hq with h | h
    · rw [h]; exact hc34
    rw [List.mem_singleton.mp h]; exact hc36)) ?_ (fun pc P h => by cases h) HR
  have ez := wi_on (n := z) (by omega)
  have hl := hs.2.2.2.2.1
  have ew := wi_on (n := w.length) (by omega)
  refine ⟨hs.1, s, a, w, rfl, hs, ?_⟩
  refine ⟨fun h1 => ?_, fun h1 => ?_⟩
  · have hne : ¬ z = w.length := fun e => h1 (by rw [e])
    rw [decide_eq_false hne, Bool.false_and] at h
    exact ⟨⟨rfl, rfl⟩, h⟩
  · have he : z = w.length := by have := wi_eq.mp (Decidable.not_not.mp h1); rw [ez, ew] at this; omega
    rw [decide_eq_true he, Bool.true_and] at h
    refine ⟨p, s, a, w, rfl, hp, hk, hs, ?_⟩
    refine ⟨fun h2 => ?_, fun h2 => ?_⟩
    · have hx : wt_rd (wt_c I) p w = false := by
        cases hx : wt_rd (wt_c I) p w with
        | false => rfl
        | true => rw [hx] at h2; cases h2
      rw [hx] at h
      exact ⟨⟨rfl, rfl⟩, h⟩
    · have hx : wt_rd (wt_c I) p w = true := by
        cases hx : wt_rd (wt_c I) p w with
        | true => rfl
        | false => rw [hx] at h2; exact (h2 rfl).elim
      rw [hx] at h
      exact ⟨⟨rfl, rfl⟩, h⟩
/-- a name's number -/
def ds_nm (t : Nat → Int32) (p : Nat) : Nat → Int64
  | 0 => Int64.ofNat 0
  | k + 1 => (ds_nm t p k <<< ((Int32.ofInt 5).toInt64 &&& 63)) ||| (t (p + k) - (Int8.ofInt 97).toInt32 + Int32.ofInt 1).toInt64
def wt_h46 (p z : Nat) (ts : List wt_t) (n : Nat) (s : wt_q) (T : wv_T) (N : Nat) (I : Nat → Nat → Int32) (L : Nat → Nat → Int64) (R : Nat → Nat → Option Nat) : Nat → Option (Nat → wv_P) := fun pc =>
  if pc = 15 then some (fun m lv st T1 N1 I1 L1 R1 nc ns => ∃ k : Nat, lv = [some (.ref 1), some (.int (Int32.ofNat p)), some (.int (Int32.ofNat z)), some (.int (Int32.ofNat (p + z))), some (.long (ds_nm (wt_c I) p k)), none, some (.int (Int32.ofNat k)), none, none, none] ∧ st = [] ∧ T1 = T ∧ N1 = N ∧ R1 = R ∧ nc = 0 ∧ ns = 0 ∧ k ≤ z ∧ m = z - k ∧ wt_K I1 L1 (ts ++ [((Int8.ofInt 32).toInt32, p, Int32.ofInt 0, Int32.ofInt 0, 0)]) n s.1 s.2 ∧ wt_A I L I1 L1)
  else none
theorem wt_K_nm {I : Nat → Nat → Int32} {L : Nat → Nat → Int64} {ts : List wt_t} {n a : Nat} {f : Option Nat} {k lo hi : Int32} {p : Nat} {x y : Int64} (h : wt_K I L (ts ++ [(k, p, lo, hi, x)]) n a f) : wt_K I (wv_u L 7 ts.length y) (ts ++ [(k, p, lo, hi, y)]) n a f := by
  have el : ∀ v : Int64, (ts ++ [((k, p, lo, hi, v) : wt_t)]).length = ts.length + 1 := fun v => by rw [List.length_append]; rfl
  obtain ⟨k1, k2, k3, k4, k5, k6, k7, k8, k9⟩ := h
  rw [el] at k3 k4 k6
  refine ⟨k1, k2, by rw [el]; exact k3, by rw [el]; exact k4, k5, by rw [el]; exact k6, k7, k8, ?_⟩
  intro i t ht
  by_cases hil : i < ts.length
  · rw [List.getElem?_append_left hil] at ht
    have := k9 i t (by rw [List.getElem?_append_left hil]; exact ht)
    rw [wv_u_no _ _ (by omega)]
    exact this
  · have hi2 : i = ts.length := by
      have := (List.getElem?_eq_some_iff.mp ht).1
      rw [el] at this
      omega
    subst hi2
    have h9 := k9 ts.length (k, p, lo, hi, x) (by rw [List.getElem?_append_right (Nat.le_refl _), Nat.sub_self]; rfl)
    rw [List.getElem?_append_right (Nat.le_refl _), Nat.sub_self] at ht
    cases ht
    exact ⟨⟨h9.1.1, h9.1.2.1, h9.1.2.2.1, h9.1.2.2.2.1, wv_u_at _ _ _ _⟩, h9.2⟩
def wt_c46 : wv_c1 := fun as T N I L R q => ∃ (ts : List wt_t) (n : Nat) (s : wt_q) (p z : Nat), as = [.ref 1, .int (Int32.ofNat p), .int (Int32.ofNat z)] ∧ wm_T T ∧ wt_K I L ts n s.1 s.2 ∧ ts.length < 401 ∧ p ≤ 400 ∧ z ≤ 400 ∧ ∀ I1 L1, wt_K I1 L1 (ts ++ [((Int8.ofInt 32).toInt32, p, Int32.ofInt 0, Int32.ofInt 0, ds_nm (wt_c I) p z)]) n s.1 s.2 → wt_A I L I1 L1 → q (.inl (some (.int (Int32.ofNat (p + z))))) T N I1 L1 R 0 0
set_option maxRecDepth 100000 in
theorem wM_46 : ∃ cb ci np, pt_mt 46 = some (2, cb, 7, false, some .int, ci, np) := ⟨_, _, _, rfl⟩
set_option maxRecDepth 100000 in
set_option maxHeartbeats 4000000 in
theorem wt_addName {sc : pt_Sc} {d : Nat} : wv_C wm_fx sc (d + 1 + 1 + 1) 46 wt_c46 := by
  rintro as T N I L R q ⟨ts, n, s, p, z, rfl, hT, hK, hl, hp, hz, h⟩ w0 HR
  obtain ⟨cb, ci, np, hm⟩ := wM_46
  have hc27 : wv_C wm_fx sc (d + 1 + 1) 27 wt_c27 := wv_C_deep (by omega) (wt_addT (d := d))
  have hc26 : wv_C wm_fx sc (d + 1 + 1) 26 wt_c26 := wv_C_deep (by omega) (wt_signAt (d := d))
  refine wv_meth (hh := none) rfl (sp := wv_sp [(27, wt_c27), (26, wt_c26)]) (hd := wt_h46 p z ts n s T N I L R) (n := 300) (n1 := 300) hm zc_46 rfl (wv_sp_ok (fun q hq => by
    rcases List.mem_cons.mp hq with h | h
    · rw [h]; exact hc27
    rw [List.mem_singleton.mp h]; exact hc26)) ?_ ?_ HR
  · refine ⟨ts, n, s, _, p, z, rfl, hT, hK, hl, hp, fun I1 L1 a b => ?_⟩
    exact ⟨z, 0, rfl, rfl, rfl, rfl, rfl, rfl, rfl, Nat.zero_le _, rfl, a, b⟩
  · intro pc P hP m lv st T1 N1 I1 L1 R1 nc ns hh
    unfold wt_h46 at hP
    split at hP
    · cases hP
      rename_i hpc
      subst hpc
      obtain ⟨k, rfl, rfl, rfl, rfl, rfl, rfl, rfl, hkz, hm, hK1, hA⟩ := hh
      have ek := wi_on (n := k) (by omega)
      have ez := wi_on (n := z) (by omega)
      have el : (ts ++ [((((Int8.ofInt 32).toInt32), p, Int32.ofInt 0, Int32.ofInt 0, 0) : wt_t)]).length = ts.length + 1 := by rw [List.length_append]; rfl
      refine ⟨fun h1 => ?_, fun h1 => ?_⟩
      · have e : k = z := by rw [wi_le, ek, ez] at h1; omega
        subst e
        have j7 : I1 1 7 = Int32.ofNat (ts.length + 1) := by rw [← el]; exact hK1.2.2.1
        have jm : (I1 1 7 - Int32.ofInt 1).toInt = ts.length := by
          rw [j7, wi_sub, wi_on (by omega), wi_of, wr_id (x := 1) (by omega) (by omega), wr_id (by omega) (by omega)]
          omega
        refine ⟨_, wm_t hT rfl, ⟨by rw [wi_le, wi_0, jm]; omega, by rw [jm]; omega⟩, by decide, ?_⟩
        have jn : (I1 1 7 - Int32.ofInt 1).toNatClampNeg = ts.length := by rw [wi_nat, jm]; omega
        rw [jn]
        exact h _ _ (wt_K_nm hK1) (wt_A_tr hA ⟨fun _ _ _ _ => rfl, fun c j hc => wv_u_no _ _ (by omega)⟩)
      · have hlt : k < z := by rw [wi_le, ek, ez] at h1; omega
        refine ⟨p + k, congrArg (fun x => [Value.ref 1, Value.int x]) (wi_ona p k), by omega, wt_K_ok hT hK1, ?_⟩
        rw [wt_A_c hA]
        exact ⟨z - (k + 1), by omega, k + 1, by rw [← wq_4s]; rfl, rfl, rfl, rfl, rfl, rfl, rfl, by omega, rfl, hK1, hA⟩
    · cases hP
