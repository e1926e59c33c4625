/-! ===== the machine follows the pure one: contracts, returns, throws, calls ===== -/
def pz_rm (d c s : Nat) : Room := { frames := d + 8, cells := c, slots := s, locals := 128 * d + 256 }
/-- what holds behind a method, in the numbers ad1: the world w1, the first n0 numbers as they were -/
def pz_Fin (D : va_G) (cl : List vw_C) (cy : Nat → ClassId) (A : Nat → Prop) (nk : Nat) (ad0 : Nat → Nat) (n0 : Nat) (w1 : List pz_C) (st t : State) (ad1 : Nat → Nat) : Prop :=
  (∀ i, i < n0 ∨ 1099511627776 ≤ i → ad1 i = ad0 i) ∧ n0 ≤ w1.length ∧ va_P D cl (pz_w cy ad1 w1) t.heap ∧ va_D A (pz_w cy ad1 w1) ∧ va_F A st t ∧ w1.length ≤ 1000000000 ∧ (∀ z ∈ w1, pz_oc w1.length z) ∧ ∀ (a k n : Nat) (z : List (Nat × Value)), w1[a]? = some (Sum.inl (k, n, z)) → k < nk
def pz_Qc (D : va_G) (cl : List vw_C) (cy : Nat → ClassId) (A : Nat → Prop) (nk : Nat) (ad0 : Nat → Nat) (n0 : Nat) (o : Option Value ⊕ Nat) (w1 : List pz_C) : Array Value → State → Outcome → State → Prop := fun _ st oc t =>
  ∃ (r : Option Value) (ad1 : Nat → Nat), o = .inl r ∧ oc = .returned (r.map (pz_v ad1)) ∧ (∀ v, r = some v → pz_o w1.length v) ∧ pz_Fin D cl cy A nk ad0 n0 w1 st t ad1
def pz_XC (xn : Nat → String) (D : va_G) (cl : List vw_C) (cy : Nat → ClassId) (A : Nat → Prop) (nk : Nat) (ad0 : Nat → Nat) (n0 : Nat) (o : Option Value ⊕ Nat) (w1 : List pz_C) : String → State → State → Prop := fun E st t =>
  ∃ (x : Nat) (ad1 : Nat → Nat), o = .inr x ∧ E = xn x ∧ pz_Fin D cl cy A nk ad0 n0 w1 st t ad1
def pz_Pc (D : va_G) (cl : List vw_C) (cy : Nat → ClassId) (A : Nat → Prop) (tys : List (ClassId × FieldType)) (tk : Nat → FieldType) (oad : Nat → Nat) (OT : Nat → Option pz_C) (SF : List (String × String × String × Value)) (RS : List (String × Nat × String × Nat)) (E2 : List Cond) (ad : Nat → Nat) (w : List pz_C) (vs : List Value) : Array Value → State → Prop :=
  va_Pc (vs.map (pz_v ad)) (fun U => (∀ q, U.heap.size ≤ q → A q) ∧ va_P D cl (pz_w cy ad w) U.heap ∧ va_D A (pz_w cy ad w) ∧ va_K D cl tys U ∧ pz_Ou cl tk oad OT SF RS A E2 U U.heap)
/-- words that stay, whatever is warmed -/
def pz_mv (E2 : List Cond) : Prop := ∀ x ∈ E2, (∀ s U : State, s.WarmedH U.vm → va_Nw x s → va_Nw x U) ∧ (∀ s U : State, s.vm = U.vm → va_Nw x s → va_Nw x U) ∧ ∀ (B : Array Value) (U : State), va_Nw x U → x.before B U = true
theorem pz_Ou_go {cl : List vw_C} {tk : Nat → FieldType} {oad : Nat → Nat} {OT : Nat → Option pz_C} {SF : List (String × String × String × Value)} {RS : List (String × Nat × String × Nat)} {A : Nat → Prop} {E2 : List Cond} {s U : State} {H H1 : Heap} (hm : pz_mv E2) (hW : s.WarmedH U.vm) (hk : ∀ a : Nat, a < H.size → ¬ A a → H1[a]? = H[a]?) (h : pz_Ou cl tk oad OT SF RS A E2 s H) : pz_Ou cl tk oad OT SF RS A E2 U H1 :=
  ⟨(h.1.moved hW.alike).kept hk, (h.2.1.moved hW.alike).kept hk, fun x hx => (hm x hx).1 s U hW (h.2.2.1 x hx), fun i x hx => pz_od_kept hk (pz_od_moved hW.alike (h.2.2.2.1 i x hx)), fun q hq => ((h.2.2.2.2.1 q hq).moved hW.alike).kept hk, fun q hq => (h.2.2.2.2.2 q hq).warm hW⟩
theorem pz_blind {D : va_G} {cl : List vw_C} {cy : Nat → ClassId} {A : Nat → Prop} {tys : List (ClassId × FieldType)} {tk : Nat → FieldType} {oad : Nat → Nat} {OT : Nat → Option pz_C} {SF : List (String × String × String × Value)} {RS : List (String × Nat × String × Nat)} {E2 : List Cond} {ad : Nat → Nat} {w : List pz_C} {vs : List Value} (hm : pz_mv E2) : FrameBlind (pz_Pc D cl cy A tys tk oad OT SF RS E2 ad w vs) := by
  intro a U g mk h
  obtain ⟨h0, h1, h2, h3, h4, h5, h6, h7, h8, h9, h10⟩ := h
  have hv : U.vm.Alike (U.calling g mk a).vm := Vm.Alike.refl _
  exact ⟨h0, h1, h2, h3, va_K.moved hv h4, h5.moved hv, h6.moved hv, fun x hx => (hm x hx).2.1 U _ rfl (h7 x hx), fun i x hx => pz_od_moved hv (h8 i x hx), fun q hq => (h9 q hq).moved hv, fun q hq => (h10 q hq).same rfl⟩
theorem pz_FB {A : Nat → Prop} {H0 H H1 : Heap} {locs L : List Loc} {st0 t : State} (hS : va_S A H0 H locs) (h0 : st0.heap = H) (ht : t.heap = H1) (hF : va_F A st0 t) (hL : ∀ q ∈ L, A q.base) : va_S A H0 H1 (locs ++ L) := by
  obtain ⟨f1, f2⟩ := hF
  rw [h0, ht] at f1 f2
  refine ⟨Nat.le_trans hS.1 f1, fun q h1 h2 => ?_, fun q hq => ?_⟩
  · rw [f2 q (Nat.lt_of_lt_of_le h1 hS.1) h2]
    exact hS.2.1 q h1 h2
  · rcases List.mem_append.mp hq with h | h
    · exact hS.2.2 q h
    · exact hL q h
section PZX
variable {p : Program} {l : Launch} {e : Env} {R : Room} {s : State} {m : MethodId} {args : Array Value} {below : List Frame} {meth : Method} {c : Code} {H : Heap} {locs : List Loc} {cells slots mc ms : Nat} {Q : State → Prop} {A : Nat → Prop} {pc : Nat} {ls : Array Slot} {st0 rest : List Value} {H0 : Heap}
/-- behind a call that returns -/
theorem pz_backR {Qa : State → Outcome → State → Prop} (hr : va_Run p l e R s m args below meth c H locs cells slots mc ms (F0 m pc ls st0) rest Qa A) (hS : va_S A H0 H locs) (hF : ∀ (v : Option Value) (a b : State), Qa a (.returned v) b → va_F A a b)
    (kk : ∀ (v : Option Value) (a t : State) (locs1 : List Loc), a.heap = H → s.WarmedH t.vm → Qa a (.returned v) t → va_S A H0 t.heap locs1 → W p l e R s m args below meth c t.heap locs1 (cells + mc) (slots + ms) Q (F0 m (pc + 3) ls (v.toList ++ rest))) : W p l e R s m args below meth c H locs cells slots Q (F0 m pc ls st0) := by
  intro T hT X
  obtain ⟨v, a, t, T', L, h0, X', hL, e1, e2, hq, st⟩ := hr T hT X
  obtain ⟨t2, a1, b1⟩ := kk v a t (locs ++ L) h0 (by rw [← e2]; exact X'.warmed) hq (pz_FB hS h0 rfl (hF v a t hq) hL) T' e1 X'
  exact ⟨t2, st t2 a1, b1⟩
end PZX
