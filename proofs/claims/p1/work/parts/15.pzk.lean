/-! ===== calls of the pure machine, taken apart ===== -/
section PZV
variable {M : Nat → Nat → Option (Nat × Nat)} {mt : Nat → Option (Nat × ByteArray × Nat × Bool × Option FieldType × Nat × Nat)} {OT : Nat → Option pz_C}
theorem pz_sel {M : Nat → Nat → Option (Nat × Nat)} {o idx len h k : Nat} {P : Nat → Prop} [DecidablePred P] (hq : (M o idx).bind (fun q => if len = 3 ∧ P q.1 then some q else none) = some (h, k)) : M o idx = some (h, k) ∧ len = 3 ∧ P h := by
  cases hM : M o idx with
  | none => rw [hM] at hq; cases hq
  | some q =>
    rw [hM, Option.bind_some] at hq
    split at hq
    · rename_i z
      cases hq
      exact ⟨rfl, z.1, z.2⟩
    · cases hq
theorem pz_K_spec {ins : Instr} {len o h k : Nat} {w : List pz_C} {st as r : List Value} (hk : pz_K M mt OT ins len o w st = some (h, k, as, r)) :
    ∃ ok code nL ini ret ci np, mt k = some (ok, code, nL, ini, ret, ci, np) ∧ nL ≤ 100 ∧ (lg_sl as).length ≤ nL ∧ (r.map fun v => v.category).sum ≤ 8 ∧ len = 3 ∧
      ((∃ idx b As fs, ins = .invokevirtual idx ∧ (h = 0 ∨ h = 5) ∧ M o idx = some (h, k) ∧ as = .ref b :: As ∧ st = As.reverse ++ .ref b :: r ∧ As.length = np ∧ pz_q OT w b = some (.inr (ci, fs))) ∨
       (∃ idx b As fs, ins = .invokespecial idx ∧ (h = 2 ∨ h = 3 ∨ h = 7) ∧ M o idx = some (h, k) ∧ as = .ref b :: As ∧ st = As.reverse ++ .ref b :: r ∧ As.length = np ∧ pz_q OT w b = some (.inr (ci, fs))) ∨
       (∃ idx, ins = .invokestatic idx ∧ (h = 4 ∨ h = 9) ∧ M o idx = some (h, k) ∧ st = as.reverse ++ r ∧ as.length = np)) := by
  unfold pz_K at hk
  split at hk
  · cases hk
  · rename_i h0 j0 hsel
    split at hk
    · cases hk
    · rename_i ok code nL ini ret ci np hmt
      split at hk
      · rename_i hc
        obtain ⟨c1, c2⟩ := hc
        split at hk
        · rename_i h4
          split at hk
          · rename_i hlg
            obtain ⟨hlg, c3⟩ := hlg
            cases hk
            refine ⟨ok, code, nL, ini, ret, ci, np, hmt, c1, hlg, c3, ?_⟩
            split at hsel
            · have := (pz_sel (P := fun x => x = 0 ∨ x = 5) hsel).2.2
              omega
            · have := (pz_sel (P := fun x => x = 2 ∨ x = 3 ∨ x = 7) hsel).2.2
              omega
            · rename_i idx
              obtain ⟨g1, g2, g3⟩ := pz_sel (P := fun x => x = 4 ∨ x = 9) hsel
              refine ⟨g2, Or.inr (Or.inr ⟨idx, rfl, g3, g1, ?_, ?_⟩)⟩
              · rw [List.reverse_reverse, List.take_append_drop]
              · rw [List.length_reverse, List.length_take]
                exact Nat.min_eq_left c2
            · cases hsel
          · cases hk
        · rename_i h4
          split at hk
          · rename_i b r0 hdrop
            split at hk
            · rename_i cj fs hw
              split at hk
              · rename_i hlg
                obtain ⟨hcj, hlg, c3⟩ := hlg
                subst hcj
                cases hk
                have hst : st = (st.take np).reverse.reverse ++ .ref b :: r := by
                  rw [List.reverse_reverse, ← hdrop, List.take_append_drop]
                have hln : (st.take np).reverse.length = np := by
                  rw [List.length_reverse, List.length_take]
                  exact Nat.min_eq_left c2
                refine ⟨ok, code, nL, ini, ret, cj, np, hmt, c1, hlg, c3, ?_⟩
                split at hsel
                · rename_i idx
                  obtain ⟨g1, g2, g3⟩ := pz_sel (P := fun x => x = 0 ∨ x = 5) hsel
                  exact ⟨g2, Or.inl ⟨idx, b, _, fs, rfl, g3, g1, rfl, hst, hln, hw⟩⟩
                · rename_i idx
                  obtain ⟨g1, g2, g3⟩ := pz_sel (P := fun x => x = 2 ∨ x = 3 ∨ x = 7) hsel
                  exact ⟨g2, Or.inr (Or.inl ⟨idx, b, _, fs, rfl, g3, g1, rfl, hst, hln, hw⟩)⟩
                · exact absurd (pz_sel (P := fun x => x = 4 ∨ x = 9) hsel).2.2 h4
                · cases hsel
              · cases hk
            · cases hk
          · cases hk
      · cases hk
end PZV
