/-! ===== the tokens: what is read of them ===== -/
/-- a token: kind, place, low, high, name -/
abbrev wt_t : Type := Int32 × Nat × Int32 × Int32 × Int64
def wt_f (f : Option Nat) : Int32 := match f with | none => Int32.ofInt (-1) | some p => Int32.ofNat p
/-- the tokens are these; the next is a; the fault f -/
def wt_K (I : Nat → Nat → Int32) (L : Nat → Nat → Int64) (ts : List wt_t) (n a : Nat) (f : Option Nat) : Prop := I 1 6 = Int32.ofNat n ∧ n ≤ 400 ∧ I 1 7 = Int32.ofNat ts.length ∧ ts.length ≤ 401 ∧ I 1 8 = Int32.ofNat a ∧ a ≤ ts.length ∧ I 1 9 = wt_f f ∧ (∀ z, f = some z → z ≤ 400) ∧ ∀ i t, ts[i]? = some t → (I 3 i = t.1 ∧ I 4 i = Int32.ofNat t.2.1 ∧ I 5 i = t.2.2.1 ∧ I 6 i = t.2.2.2.1 ∧ L 7 i = t.2.2.2.2) ∧ t.2.1 ≤ 400
def tk_now (ts : List wt_t) (s : Nat × Option Nat) : Int32 := match s.2, ts[s.1]? with | none, some t => t.1 | _, _ => Int32.ofInt 2
def tk_place (ts : List wt_t) (n a : Nat) : Nat := match ts[a]? with | some t => t.2.1 | none => n
def tk_low (ts : List wt_t) (a : Nat) : Int32 := match ts[a]? with | some t => t.2.2.1 | none => Int32.ofInt 0
def tk_high (ts : List wt_t) (a : Nat) : Int32 := match ts[a]? with | some t => t.2.2.2.1 | none => Int32.ofInt 0
def tk_name (ts : List wt_t) (a : Nat) : Int64 := match ts[a]? with | some t => t.2.2.2.2 | none => 0
def tk_adv (ts : List wt_t) (s : Nat × Option Nat) : Nat × Option Nat := match s.2, ts[s.1]? with | none, some _ => (s.1 + 1, none) | _, _ => s
def tk_refAt (p : Nat) (s : Nat × Option Nat) : Nat × Option Nat := match s.2 with | none => (s.1, some p) | some _ => s
def tk_ref (ts : List wt_t) (n : Nat) (s : Nat × Option Nat) : Nat × Option Nat := tk_refAt (tk_place ts n s.1) s
def tk_take (ts : List wt_t) (n : Nat) (k : Int32) (s : Nat × Option Nat) : Nat × Option Nat := if tk_now ts s = k then tk_adv ts s else tk_ref ts n s
theorem wt_fn (f : Option Nat) (h : ∀ z, f = some z → z ≤ 400) : wt_f f = Int32.ofInt (-1) ↔ f = none := by
  cases f with
  | none => exact ⟨fun _ => rfl, fun _ => rfl⟩
  | some p =>
    refine ⟨fun z => ?_, fun z => by cases z⟩
    have hp := h p rfl
    have e := wi_eq.mp (show Int32.ofNat p = Int32.ofInt (-1) from z)
    rw [wi_on (by omega)] at e
    have e1 : (Int32.ofInt (-1)).toInt = -1 := rfl
    omega
theorem tk_place_le {I : Nat → Nat → Int32} {L : Nat → Nat → Int64} {ts : List wt_t} {n a : Nat} {f : Option Nat} (h : wt_K I L ts n a f) (b : Nat) : tk_place ts n b ≤ 400 := by
  unfold tk_place
  split
  · rename_i t ht
    exact (h.2.2.2.2.2.2.2.2 b t ht).2
  · exact h.2.1
/-- at and fault alone are new -/
theorem wt_K_st {I I1 : Nat → Nat → Int32} {L : Nat → Nat → Int64} {ts : List wt_t} {n a a1 : Nat} {f f1 : Option Nat} (h : wt_K I L ts n a f) (h8 : I1 1 8 = Int32.ofNat a1) (ha : a1 ≤ ts.length) (h9 : I1 1 9 = wt_f f1) (hf : ∀ z, f1 = some z → z ≤ 400) (hI : ∀ c j, ¬ (c = 1 ∧ (j = 8 ∨ j = 9)) → I1 c j = I c j) : wt_K I1 L ts n a1 f1 := by
  obtain ⟨k1, k2, k3, k4, k5, k6, k7, k8, k9⟩ := h
  refine ⟨by rw [hI _ _ (by omega)]; exact k1, k2, by rw [hI _ _ (by omega)]; exact k3, k4, h8, ha, h9, hf, ?_⟩
  intro i t ht
  rw [hI _ _ (by omega), hI _ _ (by omega), hI _ _ (by omega), hI _ _ (by omega)]
  exact k9 i t ht
/-- what a call of Tokens that changes at and fault alone leaves -/
def wt_Q (I : Nat → Nat → Int32) (L : Nat → Nat → Int64) (ts : List wt_t) (n : Nat) (s : Nat × Option Nat) (I1 : Nat → Nat → Int32) : Prop := wt_K I1 L ts n s.1 s.2 ∧ ∀ c j, ¬ (c = 1 ∧ (j = 8 ∨ j = 9)) → I1 c j = I c j
theorem wt_Q_id {I : Nat → Nat → Int32} {L : Nat → Nat → Int64} {ts : List wt_t} {n : Nat} {s : Nat × Option Nat} (h : wt_K I L ts n s.1 s.2) : wt_Q I L ts n s I := ⟨h, fun _ _ _ => rfl⟩
theorem wt_Q_tr {I J K : Nat → Nat → Int32} {L : Nat → Nat → Int64} {ts : List wt_t} {n : Nat} {s t : Nat × Option Nat} (h : wt_Q I L ts n s J) (h2 : wt_Q J L ts n t K) : wt_Q I L ts n t K := ⟨h2.1, fun c j hc => by rw [h2.2 c j hc, h.2 c j hc]⟩
theorem wt_K_no {I : Nat → Nat → Int32} {L : Nat → Nat → Int64} {ts : List wt_t} {n a : Nat} {f : Option Nat} (h : wt_K I L ts n a f) (ha : ¬ I 1 8 < I 1 7) : ts[a]? = none := by
  obtain ⟨k1, k2, k3, k4, k5, k6, k7, k8, k9⟩ := h
  rw [k3, k5, wi_lt, wi_on (by omega), wi_on (by omega)] at ha
  exact List.getElem?_eq_none (by omega)
theorem wt_K_yes {I : Nat → Nat → Int32} {L : Nat → Nat → Int64} {ts : List wt_t} {n a : Nat} {f : Option Nat} (h : wt_K I L ts n a f) (ha : I 1 8 < I 1 7) : ∃ t, ts[a]? = some t ∧ a < ts.length ∧ (I 1 8).toNatClampNeg = a ∧ (0 ≤ I 1 8 ∧ (I 1 8).toInt < (401 : Nat)) ∧ I 3 a = t.1 ∧ I 4 a = Int32.ofNat t.2.1 ∧ I 5 a = t.2.2.1 ∧ I 6 a = t.2.2.2.1 ∧ L 7 a = t.2.2.2.2 := by
  obtain ⟨k1, k2, k3, k4, k5, k6, k7, k8, k9⟩ := h
  rw [k3, k5, wi_lt, wi_on (by omega), wi_on (by omega)] at ha
  have hl : a < ts.length := by omega
  have ht : ts[a]? = some ts[a] := List.getElem?_eq_getElem hl
  obtain ⟨x1, x2, x3, x4, x5⟩ := (k9 a _ ht).1
  exact ⟨ts[a], ht, hl, by rw [k5, wi_onn (by omega)], by rw [k5]; exact ⟨by rw [wi_le, wi_on (by omega), wi_0]; omega, by rw [wi_on (by omega)]; omega⟩, x1, x2, x3, x4, x5⟩
def wt_c50 : wv_c1 := fun as T N I L R q => ∃ (ts : List wt_t) (n : Nat) (s : Nat × Option Nat), as = [.ref 1] ∧ wm_T T ∧ wt_K I L ts n s.1 s.2 ∧ q (.inl (some (.int (tk_now ts s)))) T N I L R 0 0
set_option maxRecDepth 100000 in
theorem wM_50 : ∃ cb ci np, pt_mt 50 = some (2, cb, 1, false, some .int, ci, np) := ⟨_, _, _, rfl⟩
set_option maxRecDepth 100000 in
set_option maxHeartbeats 4000000 in
theorem wt_now {sc : pt_Sc} {d : Nat} : wv_C wm_fx sc (d + 1) 50 wt_c50 := by
  rintro as T N I L R q ⟨ts, n, s, rfl, hT, hK, h⟩ w HR
  obtain ⟨cb, ci, np, hm⟩ := wM_50
  refine wv_meth (hh := none) rfl (sp := fun _ _ _ _ _ _ _ _ => False) (hd := fun _ => none) (n := 0) (n1 := 300) hm zc_50 rfl (fun k as T N I L R q h => by cases h) ?_ (fun pc P h => by cases h) HR
  have k7 := hK.2.2.2.2.2.2.1
  have hfn := wt_fn s.2 hK.2.2.2.2.2.2.2.1
  rw [← k7] at hfn
  obtain ⟨a, f⟩ := s
  refine ⟨fun h1 => ?_, fun h1 => ?_⟩
  · have e : tk_now ts (a, f) = Int32.ofInt 2 := by
      cases f with
      | none => exact (h1 (hfn.mpr rfl)).elim
      | some z => rfl
    rw [e] at h
    exact h
  · have hfx : f = none := hfn.mp (Decidable.not_not.mp h1)
    subst hfx
    refine ⟨fun h2 => ?_, fun h2 => ?_⟩
    · obtain ⟨t, ht, hl, en, bd, x1, x2, x3, x4, x5⟩ := wt_K_yes hK h2
      have e : tk_now ts (a, none) = t.1 := by unfold tk_now; rw [ht]
      rw [e, ← x1] at h
      refine ⟨_, wm_t hT rfl, bd, ?_⟩
      rw [en]
      exact h
    · have e : tk_now ts (a, none) = Int32.ofInt 2 := by unfold tk_now; rw [wt_K_no hK h2]
      rw [e] at h
      exact h
def wt_c87 : wv_c1 := fun as T N I L R q => ∃ (ts : List wt_t) (n : Nat) (s : Nat × Option Nat), as = [.ref 1] ∧ wm_T T ∧ wt_K I L ts n s.1 s.2 ∧ q (.inl (some (.int (tk_low ts s.1)))) T N I L R 0 0
set_option maxRecDepth 100000 in
theorem wM_87 : ∃ cb ci np, pt_mt 87 = some (2, cb, 1, false, some .int, ci, np) := ⟨_, _, _, rfl⟩
set_option maxRecDepth 100000 in
set_option maxHeartbeats 4000000 in
theorem wt_low {sc : pt_Sc} {d : Nat} : wv_C wm_fx sc (d + 1) 87 wt_c87 := by
  rintro as T N I L R q ⟨ts, n, s, rfl, hT, hK, h⟩ w HR
  obtain ⟨cb, ci, np, hm⟩ := wM_87
  refine wv_meth (hh := none) rfl (sp := fun _ _ _ _ _ _ _ _ => False) (hd := fun _ => none) (n := 0) (n1 := 300) hm zc_87 rfl (fun k as T N I L R q h => by cases h) ?_ (fun pc P h => by cases h) HR
  refine ⟨fun h2 => ?_, fun h2 => ?_⟩
  · have e : tk_low ts s.1 = Int32.ofInt 0 := by unfold tk_low; rw [wt_K_no hK (Int32.not_lt.mpr h2)]
    rw [e] at h
    exact h
  · obtain ⟨t, ht, hl, en, bd, x1, x2, x3, x4, x5⟩ := wt_K_yes hK (Int32.not_le.mp h2)
    have e : tk_low ts s.1 = I 5 s.1 := by unfold tk_low; rw [ht, x3]
    rw [e] at h
    refine ⟨_, wm_t hT rfl, bd, ?_⟩
    rw [en]
    exact h
def wt_c138 : wv_c1 := fun as T N I L R q => ∃ (ts : List wt_t) (n : Nat) (s : Nat × Option Nat), as = [.ref 1] ∧ wm_T T ∧ wt_K I L ts n s.1 s.2 ∧ q (.inl (some (.int (tk_high ts s.1)))) T N I L R 0 0
set_option maxRecDepth 100000 in
theorem wM_138 : ∃ cb ci np, pt_mt 138 = some (2, cb, 1, false, some .int, ci, np) := ⟨_, _, _, rfl⟩
set_option maxRecDepth 100000 in
set_option maxHeartbeats 4000000 in
theorem wt_high {sc : pt_Sc} {d : Nat} : wv_C wm_fx sc (d + 1) 138 wt_c138 := by
  rintro as T N I L R q ⟨ts, n, s, rfl, hT, hK, h⟩ w HR
  obtain ⟨cb, ci, np, hm⟩ := wM_138
  refine wv_meth (hh := none) rfl (sp := fun _ _ _ _ _ _ _ _ => False) (hd := fun _ => none) (n := 0) (n1 := 300) hm zc_138 rfl (fun k as T N I L R q h => by cases h) ?_ (fun pc P h => by cases h) HR
  refine ⟨fun h2 => ?_, fun h2 => ?_⟩
  · have e : tk_high ts s.1 = Int32.ofInt 0 := by unfold tk_high; rw [wt_K_no hK (Int32.not_lt.mpr h2)]
    rw [e] at h
    exact h
  · obtain ⟨t, ht, hl, en, bd, x1, x2, x3, x4, x5⟩ := wt_K_yes hK (Int32.not_le.mp h2)
    have e : tk_high ts s.1 = I 6 s.1 := by unfold tk_high; rw [ht, x4]
    rw [e] at h
    refine ⟨_, wm_t hT rfl, bd, ?_⟩
    rw [en]
    exact h
def wt_c54 : wv_c1 := fun as T N I L R q => ∃ (ts : List wt_t) (n : Nat) (s : Nat × Option Nat), as = [.ref 1] ∧ wm_T T ∧ wt_K I L ts n s.1 s.2 ∧ q (.inl (some (.long (tk_name ts s.1)))) T N I L R 0 0
set_option maxRecDepth 100000 in
theorem wM_54 : ∃ cb ci np, pt_mt 54 = some (2, cb, 1, false, some .long, ci, np) := ⟨_, _, _, rfl⟩
set_option maxRecDepth 100000 in
set_option maxHeartbeats 4000000 in
theorem wt_name {sc : pt_Sc} {d : Nat} : wv_C wm_fx sc (d + 1) 54 wt_c54 := by
  rintro as T N I L R q ⟨ts, n, s, rfl, hT, hK, h⟩ w HR
  obtain ⟨cb, ci, np, hm⟩ := wM_54
  refine wv_meth (hh := none) rfl (sp := fun _ _ _ _ _ _ _ _ => False) (hd := fun _ => none) (n := 0) (n1 := 300) hm zc_54 rfl (fun k as T N I L R q h => by cases h) ?_ (fun pc P h => by cases h) HR
  refine ⟨fun h2 => ?_, fun h2 => ?_⟩
  · have e : tk_name ts s.1 = 0 := by unfold tk_name; rw [wt_K_no hK (Int32.not_lt.mpr h2)]
    rw [e] at h
    exact h
  · obtain ⟨t, ht, hl, en, bd, x1, x2, x3, x4, x5⟩ := wt_K_yes hK (Int32.not_le.mp h2)
    have e : tk_name ts s.1 = L 7 s.1 := by unfold tk_name; rw [ht, x5]
    rw [e] at h
    refine ⟨_, wm_t hT rfl, bd, ?_⟩
    rw [en]
    exact h
def wt_c67 : wv_c1 := fun as T N I L R q => ∃ (ts : List wt_t) (n : Nat) (s : Nat × Option Nat), as = [.ref 1] ∧ wm_T T ∧ wt_K I L ts n s.1 s.2 ∧ q (.inl (some (.int (Int32.ofNat (tk_place ts n s.1))))) T N I L R 0 0
set_option maxRecDepth 100000 in
theorem wM_67 : ∃ cb ci np, pt_mt 67 = some (2, cb, 1, false, some .int, ci, np) := ⟨_, _, _, rfl⟩
set_option maxRecDepth 100000 in
set_option maxHeartbeats 4000000 in
theorem wt_place {sc : pt_Sc} {d : Nat} : wv_C wm_fx sc (d + 1) 67 wt_c67 := by
  rintro as T N I L R q ⟨ts, n, s, rfl, hT, hK, h⟩ w HR
  obtain ⟨cb, ci, np, hm⟩ := wM_67
  refine wv_meth (hh := none) rfl (sp := fun _ _ _ _ _ _ _ _ => False) (hd := fun _ => none) (n := 0) (n1 := 300) hm zc_67 rfl (fun k as T N I L R q h => by cases h) ?_ (fun pc P h => by cases h) HR
  refine ⟨fun h2 => ?_, fun h2 => ?_⟩
  · have e : Int32.ofNat (tk_place ts n s.1) = I 1 6 := by unfold tk_place; rw [wt_K_no hK (Int32.not_lt.mpr h2), hK.1]
    rw [e] at h
    exact h
  · obtain ⟨t, ht, hl, en, bd, x1, x2, x3, x4, x5⟩ := wt_K_yes hK (Int32.not_le.mp h2)
    have e : Int32.ofNat (tk_place ts n s.1) = I 4 s.1 := by unfold tk_place; rw [ht, x2]
    rw [e] at h
    refine ⟨_, wm_t hT rfl, bd, ?_⟩
    rw [en]
    exact h
def wt_c61 : wv_c1 := fun as T N I L R q => ∃ (ts : List wt_t) (n : Nat) (s : Nat × Option Nat), as = [.ref 1] ∧ wm_T T ∧ wt_K I L ts n s.1 s.2 ∧ q (.inl (some (.int (wp_b s.2.isSome)))) T N I L R 0 0
set_option maxRecDepth 100000 in
theorem wM_61 : ∃ cb ci np, pt_mt 61 = some (2, cb, 1, false, some .boolean, ci, np) := ⟨_, _, _, rfl⟩
set_option maxRecDepth 100000 in
set_option maxHeartbeats 4000000 in
theorem wt_faulty {sc : pt_Sc} {d : Nat} : wv_C wm_fx sc (d + 1) 61 wt_c61 := by
  rintro as T N I L R q ⟨ts, n, s, rfl, hT, hK, h⟩ w HR
  obtain ⟨cb, ci, np, hm⟩ := wM_61
  refine wv_meth (hh := none) rfl (sp := fun _ _ _ _ _ _ _ _ => False) (hd := fun _ => none) (n := 0) (n1 := 300) hm zc_61 rfl (fun k as T N I L R q h => by cases h) ?_ (fun pc P h => by cases h) HR
  have k7 := hK.2.2.2.2.2.2.1
  have hfn := wt_fn s.2 hK.2.2.2.2.2.2.2.1
  rw [← k7] at hfn
  obtain ⟨a, f⟩ := s
  refine ⟨fun h1 => ?_, fun h1 => ?_⟩
  · have hfx : f = none := hfn.mp h1
    subst hfx
    exact ⟨⟨rfl, rfl⟩, h⟩
  · cases f with
    | none => exact (h1 (hfn.mpr rfl)).elim
    | some z => exact ⟨⟨rfl, rfl⟩, h⟩
def wt_c77 : wv_c1 := fun as T N I L R q => ∃ (ts : List wt_t) (n : Nat) (s : Nat × Option Nat), as = [.ref 1] ∧ wm_T T ∧ wt_K I L ts n s.1 s.2 ∧ q (.inl (some (.int (wt_f s.2)))) T N I L R 0 0
set_option maxRecDepth 100000 in
theorem wM_77 : ∃ cb ci np, pt_mt 77 = some (2, cb, 1, false, some .int, ci, np) := ⟨_, _, _, rfl⟩
set_option maxRecDepth 100000 in
set_option maxHeartbeats 4000000 in
theorem wt_fault {sc : pt_Sc} {d : Nat} : wv_C wm_fx sc (d + 1) 77 wt_c77 := by
  rintro as T N I L R q ⟨ts, n, s, rfl, hT, hK, h⟩ w HR
  obtain ⟨cb, ci, np, hm⟩ := wM_77
  refine wv_meth (hh := none) rfl (sp := fun _ _ _ _ _ _ _ _ => False) (hd := fun _ => none) (n := 0) (n1 := 300) hm zc_77 rfl (fun k as T N I L R q h => by cases h) ?_ (fun pc P h => by cases h) HR
  rw [← hK.2.2.2.2.2.2.1] at h
  exact h
def wt_c51 : wv_c1 := fun as T N I L R q => ∃ (ts : List wt_t) (n : Nat) (s : Nat × Option Nat), as = [.ref 1] ∧ wm_T T ∧ wt_K I L ts n s.1 s.2 ∧ ∀ I1, wt_Q I L ts n (tk_adv ts s) I1 → q (.inl none) T N I1 L R 0 0
set_option maxRecDepth 100000 in
theorem wM_51 : ∃ cb ci np, pt_mt 51 = some (2, cb, 1, false, none, ci, np) := ⟨_, _, _, rfl⟩
set_option maxRecDepth 100000 in
set_option maxHeartbeats 4000000 in
theorem wt_advance {sc : pt_Sc} {d : Nat} : wv_C wm_fx sc (d + 1) 51 wt_c51 := by
  rintro as T N I L R q ⟨ts, n, s, rfl, hT, hK, h⟩ w HR
  obtain ⟨cb, ci, np, hm⟩ := wM_51
  refine wv_meth (hh := none) rfl (sp := fun _ _ _ _ _ _ _ _ => False) (hd := fun _ => none) (n := 0) (n1 := 300) hm zc_51 rfl (fun k as T N I L R q h => by cases h) ?_ (fun pc P h => by cases h) HR
  have k7 := hK.2.2.2.2.2.2.1
  have k8 := hK.2.2.2.2.1
  have hfn := wt_fn s.2 hK.2.2.2.2.2.2.2.1
  rw [← k7] at hfn
  obtain ⟨a, f⟩ := s
  refine ⟨fun h1 => ?_, fun h1 => ?_⟩
  · refine h I ?_
    have e : tk_adv ts (a, f) = (a, f) := by
      cases f with
      | none => exact (h1 (hfn.mpr rfl)).elim
      | some z => rfl
    rw [e]
    exact wt_Q_id hK
  · have hfx : f = none := hfn.mp (Decidable.not_not.mp h1)
    subst hfx
    refine ⟨fun h2 => ?_, fun h2 => ?_⟩
    · refine h I ?_
      have e : tk_adv ts (a, none) = (a, none) := by unfold tk_adv; rw [wt_K_no hK (Int32.not_lt.mpr h2)]
      rw [e]
      exact wt_Q_id hK
    · obtain ⟨t, ht, hl, en, bd, x1, x2, x3, x4, x5⟩ := wt_K_yes hK (Int32.not_le.mp h2)
      have e : tk_adv ts (a, none) = (a + 1, none) := by unfold tk_adv; rw [ht]
      refine h (wv_u I 1 8 (I 1 8 + Int32.ofInt 1)) ?_
      rw [e]
      refine ⟨wt_K_st hK ?_ hl ?_ (fun z hz => by cases hz) ?_, ?_⟩
      · rw [wv_u_at, k8]; exact wq_4s a
      · rw [wv_u_no _ _ (by omega)]; exact k7
      · intro c j hc; exact wv_u_no _ _ (by omega)
      · intro c j hc; exact wv_u_no _ _ (by omega)
def wt_c52 : wv_c1 := fun as T N I L R q => ∃ (ts : List wt_t) (n : Nat) (s : Nat × Option Nat), as = [.ref 1] ∧ wm_T T ∧ wt_K I L ts n s.1 s.2 ∧ ∀ I1, wt_Q I L ts n (tk_ref ts n s) I1 → q (.inl none) T N I1 L R 0 0
set_option maxRecDepth 100000 in
theorem wM_52 : ∃ cb ci np, pt_mt 52 = some (2, cb, 1, false, none, ci, np) := ⟨_, _, _, rfl⟩
set_option maxRecDepth 100000 in
set_option maxHeartbeats 4000000 in
theorem wt_refuse {sc : pt_Sc} {d : Nat} : wv_C wm_fx sc (d + 1) 52 wt_c52 := by
  rintro as T N I L R q ⟨ts, n, s, rfl, hT, hK, h⟩ w HR
  obtain ⟨cb, ci, np, hm⟩ := wM_52
  refine wv_meth (hh := none) rfl (sp := fun _ _ _ _ _ _ _ _ => False) (hd := fun _ => none) (n := 0) (n1 := 300) hm zc_52 rfl (fun k as T N I L R q h => by cases h) ?_ (fun pc P h => by cases h) HR
  have k7 := hK.2.2.2.2.2.2.1
  have k8 := hK.2.2.2.2.1
  have hfn := wt_fn s.2 hK.2.2.2.2.2.2.2.1
  rw [← k7] at hfn
  obtain ⟨a, f⟩ := s
  refine ⟨fun h1 => ?_, fun h1 => ?_⟩
  · refine h I ?_
    have e : tk_ref ts n (a, f) = (a, f) := by
      cases f with
      | none => exact (h1 (hfn.mpr rfl)).elim
      | some z => rfl
    rw [e]
    exact wt_Q_id hK
  · have hfx : f = none := hfn.mp (Decidable.not_not.mp h1)
    subst hfx
    have hX : ∀ x, x = Int32.ofNat (tk_place ts n a) → q (.inl none) T N (wv_u I 1 9 x) L R 0 0 := by
      rintro x rfl
      refine h _ ⟨wt_K_st hK ?_ hK.2.2.2.2.2.1 ?_ ?_ ?_, ?_⟩
      · rw [wv_u_no _ _ (by omega)]; exact k8
      · rw [wv_u_at]; rfl
      · intro z hz
        cases hz
        exact tk_place_le hK a
      · intro c j hc; exact wv_u_no _ _ (by omega)
      · intro c j hc; exact wv_u_no _ _ (by omega)
    refine ⟨fun h2 => ?_, fun h2 => ?_⟩
    · refine hX (I 1 6) ?_
      unfold tk_place
      rw [wt_K_no hK (Int32.not_lt.mpr h2)]
      exact hK.1
    · obtain ⟨t, ht, hl, en, bd, x1, x2, x3, x4, x5⟩ := wt_K_yes hK (Int32.not_le.mp h2)
      refine ⟨_, wm_t hT rfl, bd, ?_⟩
      rw [en]
      refine hX (I 4 a) ?_
      unfold tk_place
      rw [ht]
      exact x2
def wt_c70 : wv_c1 := fun as T N I L R q => ∃ (ts : List wt_t) (n : Nat) (s : Nat × Option Nat) (p : Nat), as = [.ref 1, .int (Int32.ofNat p)] ∧ p ≤ 400 ∧ wm_T T ∧ wt_K I L ts n s.1 s.2 ∧ ∀ I1, wt_Q I L ts n (tk_refAt p s) I1 → q (.inl none) T N I1 L R 0 0
set_option maxRecDepth 100000 in
theorem wM_70 : ∃ cb ci np, pt_mt 70 = some (2, cb, 2, false, none, ci, np) := ⟨_, _, _, rfl⟩
set_option maxRecDepth 100000 in
set_option maxHeartbeats 4000000 in
theorem wt_refuseAt {sc : pt_Sc} {d : Nat} : wv_C wm_fx sc (d + 1) 70 wt_c70 := by
  rintro as T N I L R q ⟨ts, n, s, p, rfl, hp, hT, hK, h⟩ w HR
  obtain ⟨cb, ci, np, hm⟩ := wM_70
  refine wv_meth (hh := none) rfl (sp := fun _ _ _ _ _ _ _ _ => False) (hd := fun _ => none) (n := 0) (n1 := 300) hm zc_70 rfl (fun k as T N I L R q h => by cases h) ?_ (fun pc P h => by cases h) HR
  have k7 := hK.2.2.2.2.2.2.1
  have k8 := hK.2.2.2.2.1
  have hfn := wt_fn s.2 hK.2.2.2.2.2.2.2.1
  rw [← k7] at hfn
  obtain ⟨a, f⟩ := s
  refine ⟨fun h1 => ?_, fun h1 => ?_⟩
  · refine h I ?_
    have e : tk_refAt p (a, f) = (a, f) := by
      cases f with
      | none => exact (h1 (hfn.mpr rfl)).elim
      | some z => rfl
    rw [e]
    exact wt_Q_id hK
  · have hfx : f = none := hfn.mp (Decidable.not_not.mp h1)
    subst hfx
    refine h (wv_u I 1 9 (Int32.ofNat p)) ⟨wt_K_st hK ?_ hK.2.2.2.2.2.1 ?_ ?_ ?_, ?_⟩
    · rw [wv_u_no _ _ (by omega)]; exact k8
    · rw [wv_u_at]; rfl
    · intro z hz
      cases hz
      exact hp
    · intro c j hc; exact wv_u_no _ _ (by omega)
    · intro c j hc; exact wv_u_no _ _ (by omega)
def wt_c49 : wv_c1 := fun as T N I L R q => ∃ (ts : List wt_t) (n : Nat) (s : Nat × Option Nat) (k : Int32), as = [.ref 1, .int k] ∧ wm_T T ∧ wt_K I L ts n s.1 s.2 ∧ ∀ I1, wt_Q I L ts n (tk_take ts n k s) I1 → q (.inl none) T N I1 L R 0 0
set_option maxRecDepth 100000 in
theorem wM_49 : ∃ cb ci np, pt_mt 49 = some (2, cb, 2, false, none, ci, np) := ⟨_, _, _, rfl⟩
set_option maxRecDepth 100000 in
set_option maxHeartbeats 4000000 in
theorem wt_take {sc : pt_Sc} {d : Nat} : wv_C wm_fx sc (d + 1 + 1) 49 wt_c49 := by
  rintro as T N I L R q ⟨ts, n, s, k, rfl, hT, hK, h⟩ w HR
  obtain ⟨cb, ci, np, hm⟩ := wM_49
  have hc50 : wv_C wm_fx sc (d + 1) 50 wt_c50 := wv_C_deep (by omega) (wt_now (d := d))
  have hc51 : wv_C wm_fx sc (d + 1) 51 wt_c51 := wv_C_deep (by omega) (wt_advance (d := d))
  have hc52 : wv_C wm_fx sc (d + 1) 52 wt_c52 := wv_C_deep (by omega) (wt_refuse (d := d))
  refine wv_meth (hh := none) rfl (sp := wv_sp [(50, wt_c50), (51, wt_c51), (52, wt_c52)]) (hd := fun _ => none) (n := 0) (n1 := 300) hm zc_49 rfl (wv_sp_ok (fun q hq => by
    rcases List.mem_cons.mp hq with h | h
    · rw [h]; exact hc50
    rcases List.mem_cons.mp h with h | h
    · rw [h]; exact hc51
    rw [List.mem_singleton.mp h]; exact hc52)) ?_ (fun pc P h => by cases h) HR
  unfold tk_take at h
  refine ⟨ts, n, s, rfl, hT, hK, ?_⟩
  refine ⟨fun h1 => ?_, fun h1 => ?_⟩
  · rw [if_neg h1] at h
    exact ⟨ts, n, s, rfl, hT, hK, fun I1 h2 => h I1 h2⟩
  · rw [if_pos (Decidable.not_not.mp h1)] at h
    exact ⟨ts, n, s, rfl, hT, hK, fun I1 h2 => h I1 h2⟩
