/-! ===== the pure machine's run: counts only grow; numbers in new names ===== -/
theorem pz_v_eq {N : Nat} {ad ad1 : Nat → Nat} (h : ∀ i, i < N ∨ 1099511627776 ≤ i → ad1 i = ad i) {v : Value} (hv : pz_o N v) : pz_v ad1 v = pz_v ad v := by
  cases v with
  | ref i => exact congrArg Value.ref (h i (hv i rfl))
  | _ => rfl
theorem pz_l_eq {N : Nat} {ad ad1 : Nat → Nat} (h : ∀ i, i < N ∨ 1099511627776 ≤ i → ad1 i = ad i) {lv : List (Nat × Value)} (hv : ∀ z ∈ lv, pz_o N z.2) : pz_l ad1 lv = pz_l ad lv :=
  List.map_congr_left fun z hz => by rw [pz_v_eq h (hv z hz)]
theorem pz_st_eq {N : Nat} {ad ad1 : Nat → Nat} (h : ∀ i, i < N ∨ 1099511627776 ≤ i → ad1 i = ad i) {st : List Value} (hv : ∀ z ∈ st, pz_o N z) : st.map (pz_v ad1) = st.map (pz_v ad) :=
  List.map_congr_left fun z hz => pz_v_eq h (hv z hz)
theorem pz_lg (ad : Nat → Nat) (vs : List Value) : (lg_sl (vs.map (pz_v ad))).length = (lg_sl vs).length := by
  unfold lg_sl
  induction vs with
  | nil => rfl
  | cons v t ih =>
    simp only [List.map_cons, List.flatMap_cons, List.length_append, ih, pz_cat]
    split <;> rfl
theorem pz_args (ad : Nat → Nat) : ∀ (vs : List Value) (k : Nat), lv_args k (vs.map (pz_v ad)) = pz_l ad (lv_args k vs)
  | [], k => rfl
  | v :: t, k => by
    simp only [List.map_cons, lv_args, pz_cat]
    split <;> simp only [pz_l, List.map_cons] <;> exact congrArg _ (pz_args ad t _)
theorem pz_args_o {N : Nat} : ∀ (vs : List Value) (k : Nat), (∀ z ∈ vs, pz_o N z) → ∀ z ∈ lv_args k vs, pz_o N z.2
  | [], k, _ => fun z hz => by simp [lv_args] at hz
  | v :: t, k, h => fun z hz => by
    simp only [lv_args] at hz
    split at hz
    · rcases List.mem_cons.mp hz with rfl | hz
      · exact pz_hd h
      · exact pz_args_o t _ (pz_tl h) z hz
    · rcases List.mem_cons.mp hz with rfl | hz
      · exact pz_hd h
      · exact pz_args_o t _ (pz_tl h) z hz
section PZY
variable {cl : List vw_C} {tk : Nat → FieldType} {F : Nat → Nat → Option (Nat × Nat × Bool × FieldType)} {K KA : Nat → Nat → Option Nat} {G : Nat → Nat → Option Value} {M : Nat → Nat → Option (Nat × Nat)} {X : Nat → Nat → Option (Nat × Nat)} {mt : Nat → Option (Nat × ByteArray × Nat × Bool × Option FieldType × Nat × Nat)} {fz : Nat → List Value} {OT : Nat → Option pz_C} {ST : Nat → Nat → Option Value} {LS : Nat → Nat → Option Nat} {HH : Nat → List (Nat × Nat × Nat × Nat)} {CX : Nat → Nat → Nat → Option Bool}
theorem pz_mono : ∀ {n d j pc : Nat} {lv : List (Nat × Value)} {st : List Value} {w w1 : List pz_C} {nc ns c1 s1 : Nat} {o : Option Value ⊕ Nat}, pz_run cl tk F K KA G M X mt fz OT ST LS HH CX n d j pc lv st w nc ns = some (o, w1, c1, s1) → nc ≤ c1 ∧ ns ≤ s1
  | 0, d, j, pc, lv, st, w, w1, nc, ns, c1, s1, o, h => by simp [pz_run] at h
  | n + 1, d, j, pc, lv, st, w, w1, nc, ns, c1, s1, o, h => by
    unfold pz_run at h
    split at h
    · cases h
    · split at h
      · cases h
      · split at h
        · split at h
          · exact pz_mono h
          · cases h
        · split at h
          · exact pz_mono h
          · split at h
            · exact pz_mono h
            · split at h
              · have := pz_mono h
                omega
              · split at h
                · cases h
                  exact ⟨Nat.le_refl _, Nat.le_refl _⟩
                · split at h
                  · cases h
                    omega
                  · split at h
                    · split at h
                      · cases h
                      · have := pz_mono h
                        omega
                      · split at h
                        · split at h
                          · cases h
                            omega
                          · split at h
                            · split at h
                              · cases h
                                omega
                              · cases h
                            · cases h
                        · cases h
                    · cases h
end PZY
section PZZ
variable {p : Program} {l : Launch} {e : Env} {R : Room} {s : State} {m : MethodId} {args : Array Value} {below : List Frame} {meth : Method} {c : Code} {H : Heap} {locs : List Loc} {cells slots mc ms : Nat} {Q : State → Prop} {A : Nat → Prop} {pc : Nat} {ls : Array Slot} {st0 rest : List Value} {H0 : Heap}
/-- behind a call that throws -/
theorem pz_backX {Qa : State → Outcome → State → Prop} {XC : String → State → State → Prop} (hr : vx_Run p l e R s m args below meth c H locs cells slots mc ms (F0 m pc ls st0) rest Qa XC A) (hS : va_S A H0 H locs) (hno : ∀ (v : Option Value) (a b : State), ¬ Qa a (.returned v) b) (hF : ∀ (E : String) (a b : State), XC E a b → va_F A a b)
    (kk : ∀ (E : String) (ce : Cell) (q : Addr) (a t : State) (locs1 : List Loc), a.heap = H → s.WarmedH t.vm → XC E a t → va_S A H0 t.heap locs1 → t.heap[q]? = some ce → ce.vm = .none → s.vm.findClass E = some ce.cls → vx_W p l e R s m args below meth c t.heap locs1 (cells + mc) (slots + ms) Q (F0 m pc ls rest) q) : W p l e R s m args below meth c H locs cells slots Q (F0 m pc ls st0) := by
  intro T hT X
  rcases hr T hT X with ⟨v, a, t, T', L, h0, X', hL, e1, e2, hq, st⟩ | ⟨q, a, t, T', L, E, ce, h0, X', hL, e1, e2, hq, g1, g2, g3, st⟩
  · exact absurd hq (hno v a t)
  · obtain ⟨t2, a1, b1⟩ := kk E ce q a t (locs ++ L) h0 (by rw [← e2]; exact X'.warmed) hq (pz_FB hS h0 rfl (hF E a t hq) hL) g1 g2 g3 T' e1 X'
    exact ⟨t2, st.trans a1, b1⟩
/-- a contract whose method never throws -/
theorem pz_met {y : MethodName} {ws : List Cond} {rm : Room} {Pc : Array Value → State → Prop} {Qc : Array Value → State → Outcome → State → Prop} {XC : String → State → State → Prop} (h : vx_Met l y ws rm Pc Qc XC mc ms A) (hno : ∀ (E : String) (a b : State), ¬ XC E a b) : Met l y ws rm Pc Qc mc ms A := by
  intro p e ha hc hk s m args below hf h1 h2 h3
  obtain ⟨t, o, a1, a2, a3, a4⟩ := h p e ha hc hk s m args below hf h1 h2 h3
  refine ⟨t, o, a1, a2, a3, ?_⟩
  rcases a4 with z | ⟨q, -, E, ce, L, g, -⟩
  · exact z
  · exact absurd g (hno _ _ _)
end PZZ
