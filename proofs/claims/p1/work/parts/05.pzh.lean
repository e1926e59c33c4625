/-! ===== the pure machine: fields and arrays ===== -/
theorem pz_ct0 (ad : Nat → Nat) (l : List (Nat × Value)) (j : Nat) (x : Int32) : pz_ct ad 0 (pz_a l j (.int x)) = .inl (upd (fun i => pz_I (pz_g l i)) j x) := by
  show Sum.inl _ = Sum.inl _
  congr 1
  funext i
  rw [pz_ga]
  unfold upd
  split <;> rfl
theorem pz_ct2 (ad : Nat → Nat) (l : List (Nat × Value)) (j : Nat) (x : Int32) : pz_ct ad 2 (pz_a l j (.int x)) = .inl (upd (fun i => pz_I (pz_g l i)) j x) := pz_ct0 ad l j x
theorem pz_ct3 (ad : Nat → Nat) (l : List (Nat × Value)) (j : Nat) (x : Int32) : pz_ct ad 3 (pz_a l j (.int x)) = .inl (upd (fun i => pz_I (pz_g l i)) j x) := pz_ct0 ad l j x
theorem pz_ct1 (ad : Nat → Nat) (l : List (Nat × Value)) (j : Nat) (x : Int64) : pz_ct ad 1 (pz_a l j (.long x)) = .inr (.inl (vp_updL (fun i => pz_L (pz_g l i)) j x)) := by
  show Sum.inr (Sum.inl _) = Sum.inr (Sum.inl _)
  congr 2
  funext i
  rw [pz_ga]
  unfold vp_updL
  split <;> rfl
theorem pz_ctr (ad : Nat → Nat) (k : Nat) (l : List (Nat × Value)) : pz_ct ad (k + 4) l = .inr (.inr (.inr (.inr (fun j => (pz_R (pz_g l j)).map ad)))) := rfl
theorem pz_ct4 (ad : Nat → Nat) (k : Nat) (l : List (Nat × Value)) (j v : Nat) : pz_ct ad (k + 4) (pz_a l j (.ref v)) = .inr (.inr (.inr (.inr (va_up (fun i => (pz_R (pz_g l i)).map ad) j (some (ad v)))))) := by
  rw [pz_ctr]
  congr 4
  funext i
  rw [pz_ga]
  unfold va_up
  split <;> rfl
theorem pz_rf (ad : Nat → Nat) (r : Option Nat) : va_rf (r.map ad) = pz_v ad (va_rf r) := by cases r <;> rfl
theorem pz_narrow (ad : Nat → Nat) (ty : FieldType) (v : Value) (h : narrow ty v = v) : narrow ty (pz_v ad v) = pz_v ad v := by
  cases v with
  | ref i => cases ty <;> rfl
  | _ => exact h
theorem pz_fits (ad : Nat → Nat) (ty : FieldType) (v : Value) (h : fits ty v = true) : fits ty (pz_v ad v) = true := by
  cases v with
  | ref i => cases ty <;> first | rfl | (simp [fits] at h)
  | _ => exact h
section PZE
variable {p : Program} {l : Launch} {e : Env} {R : Room} {s : State} {m : MethodId} {args : Array Value} {below : List Frame} {meth : Method} {c : Code} {H : Heap} {locs : List Loc} {cells slots : Nat} {Q : State → Prop} {cc : ByteArray} {ad : Nat → Nat} {nL pc : Nat} {lv : List (Nat × Value)}
variable {D : va_G} {cl : List vw_C} {tys : List (ClassId × FieldType)} {cy : Nat → ClassId} {A : Nat → Prop} {w : List pz_C} {H0 : Heap} {Ts : List Cond} {own : String}
theorem pz_get_ok {C : String} {T : u_T} {N ci index k i : Nat} {fs st : List Value} {v : Value} (hx : p.tables.exec = Jvm.exec) (hb : c.code = cc) (hts : ∀ w ∈ Ts, w.before args s = true) (hin : ∀ w ∈ u_ws C T N, w ∈ Ts) (hown : s.vm.findClass own = some m.cls) (hK : va_K D cl tys s) (hP : va_P D cl (pz_w cy ad w) H)
    (hw : w[i]? = some (.inr (ci, fs))) (hc : cl[ci]? = some (C, T, N)) (hk : k < N) (hlink : (Cond.fieldLink own index (T k).1 (T k).2.1 (T k).2.2.1).before args s = true) (hv : fs[k]? = some v) (hdg : decode cc pc = .ok (.getfield index, 3))
    (kk : pz_W p l e R s m args below meth c H locs cells slots Q ad nL (pc + 3) lv (v :: st)) : pz_W p l e R s m args below meth c H locs cells slots Q ad nL pc lv (.ref i :: st) := by
  intro ls hl
  exact va_get hx hb hts hin hown hK hP i (pz_w_at hw) hc k hk hlink (fun x h => h) (v := pz_v ad v) (by rw [List.getElem?_map, hv]; rfl) hdg (kk ls hl)
theorem pz_put_ok {C : String} {T : u_T} {N ci index k i : Nat} {fs st : List Value} {v : Value} {ty0 : Nat → FieldType} {ty : FieldType} {fin : Bool} (hx : p.tables.exec = Jvm.exec) (hb : c.code = cc) (hts : ∀ w ∈ Ts, w.before args s = true) (hin : ∀ w ∈ u_ws C T N, w ∈ Ts) (hty : ∀ k, k < N → parseFieldDescriptor (T k).2.2.1 = some (ty0 k)) (hnm : ∀ a, a < N → ∀ b, b < N → a ≠ b → (T a).2.1 ≠ (T b).2.1) (hown : s.vm.findClass own = some m.cls) (hK : va_K D cl tys s) (hP : va_P D cl (pz_w cy ad w) H) (hD : va_D A (pz_w cy ad w)) (hS : va_S A H0 H locs)
    (hw : w[i]? = some (.inr (ci, fs))) (hc : cl[ci]? = some (C, T, N)) (hk : k < N) (hlink : (Cond.fieldLink own index (T k).1 (T k).2.1 (T k).2.2.1).before args s = true) (hfin : (T k).2.2.2 = fin) (hini : fin = true → meth.name = "<init>" ∧ (T k).1 = own) (hd : parseFieldDescriptor (T k).2.2.1 = some ty) (hn : narrow ty v = v) (hfit : fits ty v = true) (hlen : k < fs.length) (hdg : decode cc pc = .ok (.putfield index, 3))
    (kk : ∀ (H1 : Heap) (locs1 : List Loc), va_P D cl (pz_w cy ad (w.set i (.inr (ci, fs.set k v)))) H1 → va_D A (pz_w cy ad (w.set i (.inr (ci, fs.set k v)))) → va_S A H0 H1 locs1 → pz_W p l e R s m args below meth c H1 locs1 cells slots Q ad nL (pc + 3) lv st) : pz_W p l e R s m args below meth c H locs cells slots Q ad nL pc lv (v :: .ref i :: st) := by
  intro ls hl
  have he : (pz_w cy ad w).set i (ad i, .inr (ci, (fs.map (pz_v ad)).set k (pz_v ad v))) = pz_w cy ad (w.set i (.inr (ci, fs.set k v))) := by
    rw [← pz_w_set]
    show _ = (pz_w cy ad w).set i (ad i, .inr (ci, (fs.set k v).map (pz_v ad)))
    rw [List.map_set]
  cases fin with
  | false =>
    refine va_put hx hb hts hin ty0 hty hnm hown hK hP hD hS i (pz_w_at hw) hc k hk hlink (fun x h => h) hfin hd (pz_narrow ad ty v hn) (pz_fits ad ty v hfit) (by rw [List.length_map]; exact hlen) hdg (fun H1 locs1 h1 h2 h3 => ?_)
    rw [he] at h1 h2
    exact kk H1 locs1 h1 h2 h3 ls hl
  | true =>
    obtain ⟨g1, g2⟩ := hini rfl
    refine va_putF hx hb hts hin ty0 hty hnm hown hK hP hD hS i (pz_w_at hw) hc k hk hlink (fun x h => h) hfin g1 g2 hd (pz_narrow ad ty v hn) (pz_fits ad ty v hfit) (by rw [List.length_map]; exact hlen) hdg (fun H1 locs1 h1 h2 h3 => ?_)
    rw [he] at h1 h2
    exact kk H1 locs1 h1 h2 h3 ls hl
end PZE
/-- the cell of a number: one of the world, or one outside -/
def pz_q (OT : Nat → Option pz_C) (w : List pz_C) (i : Nat) : Option pz_C := if i < 1099511627776 then w[i]? else OT (i - 1099511627776)
/-- what an array outside holds -/
def pz_ov (k : Nat) (z : List (Nat × Value)) (j : Nat) : Value := match k with
  | 1 => .long (pz_L (pz_g z j))
  | _ => .int (pz_I (pz_g z j))
/-- a cell outside the world lies in the heap as the table says -/
def pz_od (cl : List vw_C) (tk : Nat → FieldType) (oad : Nat → Nat) (A : Nat → Prop) (U : State) (H : Heap) (i : Nat) : pz_C → Prop
  | .inl (k, n, z) => k < 4 ∧ (∀ q ∈ z, pz_o 0 q.2) ∧ va_T (tk k) (oad i) n (pz_ov k z) A U H
  | .inr (ci, fs) => ∃ (C : String) (T : u_T) (N : Nat), cl[ci]? = some (C, T, N) ∧ va_O C (oad i) A U H ∧ ∀ (k : Nat) (v : Value), fs[k]? = some v → k < N ∧ va_OF (T k).1 (T k).2.1 (T k).2.2.1 (pz_v oad v) (oad i) A U H ∧ pz_o 0 v
theorem pz_od_moved {cl : List vw_C} {tk : Nat → FieldType} {oad : Nat → Nat} {A : Nat → Prop} {u U : State} {H : Heap} {i : Nat} {x : pz_C} (hvm : u.vm.Alike U.vm) (h : pz_od cl tk oad A u H i x) : pz_od cl tk oad A U H i x := by
  cases x with
  | inl x => exact ⟨h.1, h.2.1, h.2.2.moved hvm⟩
  | inr x =>
    obtain ⟨C, T, N, h1, h2, h3⟩ := h
    exact ⟨C, T, N, h1, h2.moved hvm, fun k v hk => ⟨(h3 k v hk).1, (h3 k v hk).2.1.moved hvm, (h3 k v hk).2.2⟩⟩
theorem pz_od_kept {cl : List vw_C} {tk : Nat → FieldType} {oad : Nat → Nat} {A : Nat → Prop} {U : State} {H H1 : Heap} {i : Nat} {x : pz_C} (hq : ∀ a : Nat, a < H.size → ¬ A a → H1[a]? = H[a]?) (h : pz_od cl tk oad A U H i x) : pz_od cl tk oad A U H1 i x := by
  cases x with
  | inl x => exact ⟨h.1, h.2.1, h.2.2.kept hq⟩
  | inr x =>
    obtain ⟨C, T, N, h1, h2, h3⟩ := h
    exact ⟨C, T, N, h1, h2.kept hq, fun k v hk => ⟨(h3 k v hk).1, (h3 k v hk).2.1.kept hq, (h3 k v hk).2.2⟩⟩
/-- a number's cell: in the world, or outside -/
theorem pz_q_or {OT : Nat → Option pz_C} {w : List pz_C} {i : Nat} {x : pz_C} (h : pz_q OT w i = some x) : w[i]? = some x ∨ (1099511627776 ≤ i ∧ OT (i - 1099511627776) = some x) := by
  unfold pz_q at h
  split at h
  · exact Or.inl h
  · rename_i hi
    exact Or.inr ⟨Nat.not_lt.mp hi, h⟩
/-- loads out of arrays: the stack behind it -/
def pz_AL (OT : Nat → Option pz_C) (ins : Instr) (w : List pz_C) (st : List Value) : Option (List Value) := match st with
  | .int i :: .ref a :: r => (match pz_q OT w a with
    | some (.inl (k, n, l)) => if i < 0 ∨ n ≤ i.toNatClampNeg then none else (match ins, k with
      | .iaload, 0 => some (.int (pz_I (pz_g l i.toNatClampNeg)) :: r)
      | .laload, 1 => some (.long (pz_L (pz_g l i.toNatClampNeg)) :: r)
      | .baload, 2 => some (.int (pz_I (pz_g l i.toNatClampNeg)) :: r)
      | .baload, 3 => some (.int (pz_I (pz_g l i.toNatClampNeg)) :: r)
      | .aaload, _ + 4 => some (va_rf (pz_R (pz_g l i.toNatClampNeg)) :: r)
      | _, _ => none)
    | _ => none)
  | _ => none
section PZF
variable {p : Program} {l : Launch} {e : Env} {R : Room} {s : State} {m : MethodId} {args : Array Value} {below : List Frame} {meth : Method} {c : Code} {H : Heap} {locs : List Loc} {cells slots : Nat} {Q : State → Prop} {cc : ByteArray} {ad oad : Nat → Nat} {nL pc : Nat} {lv : List (Nat × Value)}
variable {D : va_G} {cl : List vw_C} {tys : List (ClassId × FieldType)} {cy : Nat → ClassId} {A : Nat → Prop} {w : List pz_C} {Ts : List Cond} {own : String} {tk : Nat → FieldType} {OT : Nat → Option pz_C}
/-- which types of arrays the kinds are -/
def pz_T (tk : Nat → FieldType) (nk : Nat) (cy : Nat → ClassId) (tys : List (ClassId × FieldType)) : Prop := tk 0 = .int ∧ tk 1 = .long ∧ tk 2 = .boolean ∧ tk 3 = .byte ∧ (∀ k, (∃ C, tk (k + 4) = .object C) ∨ ∃ t, tk (k + 4) = .array t) ∧ ∀ k, k < nk → tys[k]? = some (cy k, tk k)
theorem pz_AL_ok {nk : Nat} {ins : Instr} {st st1 : List Value} (hx : p.tables.exec = Jvm.exec) (hb : c.code = cc) (hK : va_K D cl tys s) (hT : pz_T tk nk cy tys) (hn : ∀ (a k n : Nat) (z : List (Nat × Value)), w[a]? = some (Sum.inl (k, n, z)) → k < nk) (hP : va_P D cl (pz_w cy ad w) H) (hS : va_S A s.heap H locs) (hO : ∀ (i : Nat) (x : pz_C), OT i = some x → pz_od cl tk oad A s s.heap (1099511627776 + i) x) (hoa : ∀ i, 1099511627776 ≤ i → ad i = oad i) (hdg : decode cc pc = .ok (ins, 1)) (h : pz_AL OT ins w st = some st1)
    (kk : pz_W p l e R s m args below meth c H locs cells slots Q ad nL (pc + 1) lv st1) : pz_W p l e R s m args below meth c H locs cells slots Q ad nL pc lv st := by
  intro ls hl
  obtain ⟨t0, t1, t2, t3, t4, t5⟩ := hT
  unfold pz_AL at h
  split at h
  · rename_i i a r
    split at h
    · rename_i k n z hq
      split at h
      · cases h
      · rename_i hin
        rcases pz_q_or hq with hw | ⟨hB, hot⟩
        · have hk := t5 _ (hn _ _ _ _ hw)
          split at h
          · cases h
            rw [t0] at hk
            exact va_iald hx hb hK hP _ 0 (pz_w_at hw) hk hin hdg (kk ls hl)
          · cases h
            rw [t1] at hk
            exact va_lald hx hb hK hP _ 1 (pz_w_at hw) hk hin hdg (kk ls hl)
          · cases h
            rw [t2] at hk
            exact va_zald hx hb hK hP _ 2 (pz_w_at hw) hk hin hdg (kk ls hl)
          · cases h
            rw [t3] at hk
            exact va_bald hx hb hK hP _ 3 (pz_w_at hw) hk hin hdg (kk ls hl)
          · rename_i k0
            cases h
            have hq := kk ls hl
            rw [List.map_cons, ← pz_rf] at hq
            rcases t4 k0 with ⟨C, hC⟩ | ⟨t, ht⟩
            · rw [hC] at hk
              exact va_aldq hx hb hK hP _ _ (pz_w_at hw) hk hin hdg hq
            · rw [ht] at hk
              have hlt := Nat.not_le.mp fun q => hin (Or.inr q)
              exact W.aald (ty := .array t) hx hb (hP _ _ (pz_w_at hw)) ((hK.2 _ _ hk).1 _ (fun j => va_rf _)) rfl (fun q => by cases q) (by show ¬ (_ < 0 ∨ (arrV _ _ _).slots.size ≤ _); rw [arrV_size]; exact hin) (by show (arrV _ _ _).slots[_]? = _; rw [arrV_read _ _ hlt]) rfl rfl hdg hq
          · cases h
        · obtain ⟨hk4, -, cell, v1, v2, v3, v4, -, v6, v7⟩ := hO _ _ hot
          have he : 1099511627776 + (a - 1099511627776) = a := Nat.add_sub_cancel' hB
          have hlt := Nat.not_le.mp fun q => hin (Or.inr q)
          have hin2 : ¬ (i < 0 ∨ cell.slots.size ≤ i.toNatClampNeg) := fun q => hin (q.imp id (fun z => Nat.le_trans v4 z))
          have v1b : H[ad a]? = some cell := by
            rw [hoa a hB]
            rw [he] at v1 v7
            rw [hS.2.1 _ (Array.getElem?_eq_some_iff.mp v1).1 v7]
            exact v1
          have hv := v6 _ hlt
          split at h
          · cases h
            rw [t0] at v2
            exact W.iald hx hb v1b v2 v3 hin2 hv rfl rfl hdg (kk ls hl)
          · cases h
            rw [t1] at v2
            exact W.lald hx hb v1b v2 v3 hin2 hv rfl rfl hdg (kk ls hl)
          · cases h
            rw [t2] at v2
            exact W.zald hx hb v1b v2 v3 hin2 hv rfl rfl hdg (kk ls hl)
          · cases h
            rw [t3] at v2
            exact W.bald hx hb v1b v2 v3 hin2 hv rfl rfl hdg (kk ls hl)
          · exact absurd hk4 (by omega)
          · cases h
    · cases h
  · cases h
/-- a field of a thing outside -/
theorem pz_oget_ok {C : String} {T : u_T} {N ci index k i : Nat} {fs st : List Value} {v : Value} (hx : p.tables.exec = Jvm.exec) (hb : c.code = cc) (hown : s.vm.findClass own = some m.cls) (hS : va_S A s.heap H locs) (hd : pz_od cl tk oad A s s.heap i (.inr (ci, fs))) (hc : cl[ci]? = some (C, T, N)) (hB : 1099511627776 ≤ i) (hoa : ∀ i, 1099511627776 ≤ i → ad i = oad i) (hlink : (Cond.fieldLink own index (T k).1 (T k).2.1 (T k).2.2.1).before args s = true) (hv : fs[k]? = some v) (hdg : decode cc pc = .ok (.getfield index, 3))
    (kk : pz_o 0 v → pz_W p l e R s m args below meth c H locs cells slots Q ad nL (pc + 3) lv (v :: st)) : pz_W p l e R s m args below meth c H locs cells slots Q ad nL pc lv (.ref i :: st) := by
  intro ls hl
  obtain ⟨C', T', N', h1, -, h3⟩ := hd
  rw [hc] at h1
  cases h1
  obtain ⟨-, g2, g3⟩ := h3 k v hv
  have he : pz_v ad v = pz_v oad v := by
    cases v with
    | ref j => exact congrArg Value.ref (hoa j ((g3 j rfl).elim (fun z => absurd z (Nat.not_lt_zero _)) id))
    | _ => rfl
  have hq := kk g3 ls hl
  rw [List.map_cons, he] at hq
  show W p l e R s m args below meth c H locs cells slots Q (F0 m pc ls (.ref (ad i) :: st.map (pz_v ad)))
  rw [hoa i hB]
  exact vk_getf hx hb g2 hS hown hlink (fun x h => h) hdg hq
theorem pz_olen_ok {i k n : Nat} {z : List (Nat × Value)} {st : List Value} (hx : p.tables.exec = Jvm.exec) (hb : c.code = cc) (hS : va_S A s.heap H locs) (hd : pz_od cl tk oad A s s.heap i (.inl (k, n, z))) (hB : 1099511627776 ≤ i) (hoa : ∀ i, 1099511627776 ≤ i → ad i = oad i) (hdg : decode cc pc = .ok (.arraylength, 1))
    (kk : pz_W p l e R s m args below meth c H locs cells slots Q ad nL (pc + 1) lv (.int (Int32.ofNat n) :: st)) : pz_W p l e R s m args below meth c H locs cells slots Q ad nL pc lv (.ref i :: st) := by
  intro ls hl
  obtain ⟨-, -, cell, v1, v2, -, -, v5, -, v7⟩ := hd
  show W p l e R s m args below meth c H locs cells slots Q (F0 m pc ls (.ref (ad i) :: st.map (pz_v ad)))
  rw [hoa i hB]
  exact W.alen hx hb (by rw [hS.2.1 _ (Array.getElem?_eq_some_iff.mp v1).1 v7]; exact v1) v2 v5 rfl rfl hdg (kk ls hl)
end PZF
