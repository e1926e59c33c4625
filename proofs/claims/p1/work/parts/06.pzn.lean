/-! ===== the pure machine: array stores, lengths, new arrays and objects ===== -/
def pz_AS (ins : Instr) (cl : List vw_C) (tk : Nat → FieldType) (w : List pz_C) (st : List Value) : Option (List pz_C × List Value) := match st with
  | v :: .int i :: .ref a :: r => (match w[a]? with
    | some (.inl (k, n, z)) => if i < 0 ∨ n ≤ i.toNatClampNeg then none else (match ins, k, v with
      | .iastore, 0, .int x => some (w.set a (.inl (0, n, pz_a z i.toNatClampNeg (.int x))), r)
      | .lastore, 1, .long x => some (w.set a (.inl (1, n, pz_a z i.toNatClampNeg (.long x))), r)
      | .bastore, 2, .int x => some (w.set a (.inl (2, n, pz_a z i.toNatClampNeg (.int (vp_nar .boolean x)))), r)
      | .bastore, 3, .int x => some (w.set a (.inl (3, n, pz_a z i.toNatClampNeg (.int (vp_nar .byte x)))), r)
      | .aastore, k1 + 4, .ref b => (match w[b]? with
        | some (.inr (ci, _)) => (match cl[ci]? with
          | some q => if tk (k1 + 4) = .object q.1 then some (w.set a (.inl (k1 + 4, n, pz_a z i.toNatClampNeg (.ref b))), r) else none
          | none => none)
        | _ => none)
      | _, _, _ => none)
    | _ => none)
  | _ => none
def pz_ak : ArrayType → Option Nat
  | .int => some 0
  | .long => some 1
  | .boolean => some 2
  | .byte => some 3
  | _ => none
theorem pz_vr (ad : Nat → Nat) (w q : Nat) : pz_v (va_up ad w q) (.ref w) = .ref q := by simp [pz_v, va_up]
section PZG
variable {p : Program} {l : Launch} {e : Env} {R : Room} {s : State} {m : MethodId} {args : Array Value} {below : List Frame} {meth : Method} {c : Code} {H : Heap} {locs : List Loc} {cells slots : Nat} {Q : State → Prop} {cc : ByteArray} {ad : Nat → Nat} {nL pc : Nat} {lv : List (Nat × Value)}
variable {D : va_G} {cl : List vw_C} {tys : List (ClassId × FieldType)} {cy : Nat → ClassId} {A : Nat → Prop} {w : List pz_C} {H0 : Heap} {Ts : List Cond} {own : String} {tk : Nat → FieldType}
theorem pz_AS_ok {nk : Nat} {ins : Instr} {st st1 : List Value} {w1 : List pz_C} (hx : p.tables.exec = Jvm.exec) (hb : c.code = cc) (hK : va_K D cl tys s) (hT : pz_T tk nk cy tys) (hn : ∀ (a k n : Nat) (z : List (Nat × Value)), w[a]? = some (Sum.inl (k, n, z)) → k < nk) (hP : va_P D cl (pz_w cy ad w) H) (hD : va_D A (pz_w cy ad w)) (hS : va_S A H0 H locs) (hdg : decode cc pc = .ok (ins, 1)) (h : pz_AS ins cl tk w st = some (w1, st1))
    (kk : ∀ (H1 : Heap) (locs1 : List Loc), va_P D cl (pz_w cy ad w1) H1 → va_D A (pz_w cy ad w1) → va_S A H0 H1 locs1 → pz_W p l e R s m args below meth c H1 locs1 cells slots Q ad nL (pc + 1) lv st1) : pz_W p l e R s m args below meth c H locs cells slots Q ad nL pc lv st := by
  intro ls hl
  obtain ⟨t0, t1, t2, t3, t4, t5⟩ := hT
  unfold pz_AS at h
  split at h
  · split at h
    · rename_i hw
      have hk := t5 _ (hn _ _ _ _ hw)
      split at h
      · cases h
      · rename_i hin
        split at h
        · cases h
          rw [t0] at hk
          refine va_iast hx hb hK hP hD hS _ 0 (pz_w_at hw) hk hin hdg (fun H1 locs1 h1 h2 h3 => ?_)
          rw [← pz_ct0 ad] at h1 h2
          rw [← pz_w_set] at kk
          exact kk H1 locs1 h1 h2 h3 ls hl
        · cases h
          rw [t1] at hk
          refine va_last hx hb hK hP hD hS _ 1 (pz_w_at hw) hk hin hdg (fun H1 locs1 h1 h2 h3 => ?_)
          rw [← pz_ct1 ad] at h1 h2
          rw [← pz_w_set] at kk
          exact kk H1 locs1 h1 h2 h3 ls hl
        · cases h
          rw [t2] at hk
          refine va_zast hx hb hK hP hD hS _ 2 (pz_w_at hw) hk hin hdg (fun H1 locs1 h1 h2 h3 => ?_)
          rw [← pz_ct2 ad] at h1 h2
          rw [← pz_w_set] at kk
          exact kk H1 locs1 h1 h2 h3 ls hl
        · cases h
          rw [t3] at hk
          refine va_bast hx hb hK hP hD hS _ 3 (pz_w_at hw) hk hin hdg (fun H1 locs1 h1 h2 h3 => ?_)
          rw [← pz_ct3 ad] at h1 h2
          rw [← pz_w_set] at kk
          exact kk H1 locs1 h1 h2 h3 ls hl
        · split at h
          · rename_i hv
            split at h
            · rename_i hc
              split at h
              · rename_i htk
                cases h
                rw [htk] at hk
                refine va_astq hx hb hK hP hD hS _ _ _ _ (pz_w_at hw) hk (pz_w_at hv) hc hin hdg (fun H1 locs1 h1 h2 h3 => ?_)
                rw [← pz_ct4 ad] at h1 h2
                rw [← pz_w_set] at kk
                exact kk H1 locs1 h1 h2 h3 ls hl
              · cases h
            · cases h
          · cases h
        · cases h
    · cases h
  · cases h
theorem pz_alen_ok {nk i k n : Nat} {z : List (Nat × Value)} {st : List Value} (hx : p.tables.exec = Jvm.exec) (hb : c.code = cc) (hK : va_K D cl tys s) (hT : pz_T tk nk cy tys) (hk : k < nk) (hP : va_P D cl (pz_w cy ad w) H) (hw : w[i]? = some (.inl (k, n, z))) (hdg : decode cc pc = .ok (.arraylength, 1))
    (kk : pz_W p l e R s m args below meth c H locs cells slots Q ad nL (pc + 1) lv (.int (Int32.ofNat n) :: st)) : pz_W p l e R s m args below meth c H locs cells slots Q ad nL pc lv (.ref i :: st) := by
  intro ls hl
  exact va_alen hx hb hK hP i k (pz_w_at hw) (hT.2.2.2.2.2 k hk) rfl hdg (kk ls hl)
/-- a new cell: the rest of the walk in the numbers behind it -/
theorem pz_fresh {q : Nat} {x : pz_C} {st : List Value} {pc1 : Nat} {cells1 slots1 : Nat} (hlen : w.length < 1099511627776) (hwo : ∀ z ∈ w, pz_oc w.length z) (hxo : pz_oc w.length x) (hlo : ∀ z ∈ lv, pz_o w.length z.2) (hso : ∀ z ∈ st, pz_o w.length z)
    (hP : va_P D cl (pz_w cy ad w ++ [(q, pz_c cy ad x)]) H) (hD : va_D A (pz_w cy ad w ++ [(q, pz_c cy ad x)])) {ls : Array Slot} (hl : lv_has ls nL (pz_l ad lv))
    (kk : va_P D cl (pz_w cy (va_up ad w.length q) (w ++ [x])) H → va_D A (pz_w cy (va_up ad w.length q) (w ++ [x])) → pz_W p l e R s m args below meth c H locs cells1 slots1 Q (va_up ad w.length q) nL pc1 lv (.ref w.length :: st)) :
    W p l e R s m args below meth c H locs cells1 slots1 Q (F0 m pc1 ls (.ref q :: st.map (pz_v ad))) := by
  rw [pz_w_push hlen hwo hxo] at hP hD
  have h := kk hP hD ls (by rw [pz_l_up hlen hlo]; exact hl)
  rw [List.map_cons, pz_vr, pz_st_up hlen hso] at h
  exact h
theorem pz_newa_ok {nk k N : Nat} {atype : ArrayType} {n : Int32} {st : List Value} (hx : p.tables.exec = Jvm.exec) (hb : c.code = cc) (harr : (Cond.arrayClass (newarray.typeOf atype)).before args s = true) (hK : va_K D cl tys s) (hT : pz_T tk nk cy tys) (hak : pz_ak atype = some k) (hk : k < nk) (hP : va_P D cl (pz_w cy ad w) H) (hD : va_D A (pz_w cy ad w)) (hS : va_S A H0 H locs) (hA : ∀ q, H0.size ≤ q → A q)
    (hn : ¬ n < 0) (hN : n.toNatClampNeg = N) (hbytes : N ≤ 67108864) (hcells : cells + 1 ≤ R.cells) (hslots : slots + N ≤ R.slots) (hlen : w.length < 1099511627776) (hwo : ∀ z ∈ w, pz_oc w.length z) (hlo : ∀ z ∈ lv, pz_o w.length z.2) (hso : ∀ z ∈ st, pz_o w.length z) (hdg : decode cc pc = .ok (.newarray atype, 2))
    (kk : ∀ (q : Nat) (H1 : Heap), va_P D cl (pz_w cy (va_up ad w.length q) (w ++ [.inl (k, N, [])])) H1 → va_D A (pz_w cy (va_up ad w.length q) (w ++ [.inl (k, N, [])])) → va_S A H0 H1 locs → pz_W p l e R s m args below meth c H1 locs (cells + 1) (slots + N) Q (va_up ad w.length q) nL (pc + 2) lv (.ref w.length :: st)) :
    pz_W p l e R s m args below meth c H locs cells slots Q ad nL pc lv (.int n :: st) := by
  intro ls hl
  have hty : newarray.typeOf atype = tk k := by
    obtain ⟨t0, t1, t2, t3, -⟩ := hT
    cases atype <;> simp [pz_ak] at hak <;> subst hak <;> first | exact t0.symm | exact t1.symm | exact t2.symm | exact t3.symm
  have hcb : componentBytes (tk k) ≤ 8 := by
    rw [← hty]
    cases atype <;> decide
  refine va_newa (a0 := (N, pz_ct ad k [])) hx hb harr hty hK hP hD hS hA (fun cA => ?_) hn hN (Nat.le_trans (Nat.mul_le_mul hbytes hcb) (by decide)) hcells hslots hdg (fun q cA H1 g1 g2 g3 g4 => ?_)
  · obtain ⟨t0, t1, t2, t3, -⟩ := hT
    cases atype <;> simp [pz_ak] at hak <;> subst hak <;> first | (rw [t0]; rfl) | (rw [t1]; rfl) | (rw [t2]; rfl) | (rw [t3]; rfl)
  · have e1 : va_RA s cA (tk k) := (g1.2 tys.length (cA, tk k) (by simp)).2
    have e2 : va_RA s (cy k) (tk k) := (hK.2 k _ (hT.2.2.2.2.2 k hk)).2
    have hc : cA = cy k := by
      rw [← hty] at e1 e2
      cases atype <;> exact Option.some.inj (Eq.trans (Eq.symm e1) e2)
    subst hc
    exact pz_fresh (x := .inl (k, N, [])) hlen hwo (fun z hz => by cases hz) hlo hso g2 g3 hl (fun h1 h2 => kk q H1 h1 h2 g4)
end PZG
