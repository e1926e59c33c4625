/-! ===== the pure machine: values whose references are numbers; 'ad' says at which address a number lies ===== -/
def pz_v (ad : Nat → Nat) : Value → Value
  | .ref i => .ref (ad i)
  | v => v
theorem pz_cat (ad : Nat → Nat) (v : Value) : (pz_v ad v).category = v.category := by cases v <;> rfl
def pz_l (ad : Nat → Nat) (lv : List (Nat × Value)) : List (Nat × Value) := lv.map fun q => (q.1, pz_v ad q.2)
def pz_ld : List (Nat × Value) → Nat → Option Value
  | [], _ => none
  | q :: t, i => if q.1 = i then some q.2 else pz_ld t i
theorem pz_ld_mem : ∀ {lv : List (Nat × Value)} {i : Nat} {v : Value}, pz_ld lv i = some v → (i, v) ∈ lv
  | [], i, v, h => by simp [pz_ld] at h
  | q :: t, i, v, h => by
    unfold pz_ld at h
    split at h
    · rename_i hq
      cases h
      subst hq
      exact List.mem_cons_self
    · exact List.mem_cons_of_mem _ (pz_ld_mem h)
theorem pz_at {ad : Nat → Nat} {nL : Nat} {ls : Array Slot} {lv : List (Nat × Value)} {i : Nat} {v : Value} (hl : lv_has ls nL (pz_l ad lv)) (h : pz_ld lv i = some v) : ls[i]? = some (.val (pz_v ad v)) :=
  hl.2.2 (i, pz_v ad v) (List.mem_map.mpr ⟨(i, v), pz_ld_mem h, rfl⟩)
def pz_s1 (lv : List (Nat × Value)) (i : Nat) (v : Value) : List (Nat × Value) := (i, v) :: lv.filter (fun q => !(q.1 == i) && !(q.1 + 1 == i && q.2.category == 2))
def pz_s2 (lv : List (Nat × Value)) (i : Nat) (v : Value) : List (Nat × Value) := (i, v) :: lv.filter (fun q => !(q.1 == i) && (!(q.1 == i + 1) && !(q.1 + 1 == i && q.2.category == 2)))
theorem pz_l_s1 (ad : Nat → Nat) (lv : List (Nat × Value)) (i : Nat) (v : Value) : (i, pz_v ad v) :: (pz_l ad lv).filter (fun q => !(q.1 == i) && !(q.1 + 1 == i && q.2.category == 2)) = pz_l ad (pz_s1 lv i v) := by
  unfold pz_l pz_s1
  rw [List.map_cons, List.filter_map]
  congr 2
  apply List.filter_congr
  intro q _
  simp only [Function.comp, pz_cat]
theorem pz_l_s2 (ad : Nat → Nat) (lv : List (Nat × Value)) (i : Nat) (v : Value) : (i, pz_v ad v) :: (pz_l ad lv).filter (fun q => !(q.1 == i) && (!(q.1 == i + 1) && !(q.1 + 1 == i && q.2.category == 2))) = pz_l ad (pz_s2 lv i v) := by
  unfold pz_l pz_s2
  rw [List.map_cons, List.filter_map]
  congr 2
  apply List.filter_congr
  intro q _
  simp only [Function.comp, pz_cat]
/-- instructions of one byte that work on the operand stack alone -/
def pz_B (ins : Instr) (st : List Value) : Option (List Value) := match ins, st with
  | .iadd, .int y :: .int x :: r => some (.int (x + y) :: r)
  | .isub, .int y :: .int x :: r => some (.int (x - y) :: r)
  | .imul, .int y :: .int x :: r => some (.int (x * y) :: r)
  | .iand, .int y :: .int x :: r => some (.int (x &&& y) :: r)
  | .ior, .int y :: .int x :: r => some (.int (x ||| y) :: r)
  | .ixor, .int y :: .int x :: r => some (.int (x ^^^ y) :: r)
  | .ishl, .int y :: .int x :: r => some (.int (x <<< (y &&& 31)) :: r)
  | .ishr, .int y :: .int x :: r => some (.int (x >>> (y &&& 31)) :: r)
  | .iushr, .int y :: .int x :: r => some (.int ((x.toUInt32 >>> (y.toUInt32 &&& Int32.toUInt32 31)).toInt32) :: r)
  | .ineg, .int x :: r => some (.int (-x) :: r)
  | .i2l, .int x :: r => some (.long x.toInt64 :: r)
  | .i2b, .int x :: r => some (.int x.toInt8.toInt32 :: r)
  | .i2c, .int x :: r => some (.int (x.toUInt32 % 65536).toInt32 :: r)
  | .l2i, .long x :: r => some (.int x.toInt32 :: r)
  | .land, .long y :: .long x :: r => some (.long (x &&& y) :: r)
  | .lor, .long y :: .long x :: r => some (.long (x ||| y) :: r)
  | .lxor, .long y :: .long x :: r => some (.long (x ^^^ y) :: r)
  | .lsub, .long y :: .long x :: r => some (.long (x - y) :: r)
  | .lmul, .long y :: .long x :: r => some (.long (x * y) :: r)
  | .ladd, .long y :: .long x :: r => some (.long (x + y) :: r)
  | .lshl, .int y :: .long x :: r => some (.long (x <<< (y.toInt64 &&& 63)) :: r)
  | .lshr, .int y :: .long x :: r => some (.long (x >>> (y.toInt64 &&& 63)) :: r)
  | .lushr, .int y :: .long x :: r => some (.long ((x.toUInt64 >>> (y.toInt64.toUInt64 &&& Int64.toUInt64 63)).toInt64) :: r)
  | .lneg, .long x :: r => some (.long (-x) :: r)
  | .lcmp, .long y :: .long x :: r => some (.int (lg_cmp x y) :: r)
  | .idiv, .int y :: .int x :: r => if y = 0 then none else some (.int (x / y) :: r)
  | .irem, .int y :: .int x :: r => if y = 0 then none else some (.int (x - x / y * y) :: r)
  | .aconst_null, r => some (.null :: r)
  | .dup, v :: r => if v.category = 1 then some (v :: v :: r) else none
  | .pop, v :: r => if v.category = 1 then some r else none
  | .dup2, v :: r => if v.category = 2 then some (v :: v :: r) else (match r with | u :: r2 => if v.category = 1 ∧ u.category = 1 then some (v :: u :: v :: u :: r2) else none | [] => none)
  | .dup_x1, v :: u :: r => if v.category = 1 ∧ u.category = 1 then some (v :: u :: v :: r) else none
  | _, _ => none
section PZB
variable {p : Program} {l : Launch} {e : Env} {R : Room} {s : State} {m : MethodId} {args : Array Value} {below : List Frame} {meth : Method} {c : Code} {H : Heap} {locs : List Loc} {cells slots : Nat} {Q : State → Prop} {cc : ByteArray} {ad : Nat → Nat} {nL pc : Nat} {lv : List (Nat × Value)}
/-- the machine stands at this pc, with these locals and this stack, and comes to Q -/
def pz_W (p : Program) (l : Launch) (e : Env) (R : Room) (s : State) (m : MethodId) (args : Array Value) (below : List Frame) (meth : Method) (c : Code) (H : Heap) (locs : List Loc) (cells slots : Nat) (Q : State → Prop) (ad : Nat → Nat) (nL pc : Nat) (lv : List (Nat × Value)) (st : List Value) : Prop :=
  ∀ ls : Array Slot, lv_has ls nL (pz_l ad lv) → W p l e R s m args below meth c H locs cells slots Q (F0 m pc ls (st.map (pz_v ad)))
theorem pz_B_ok {ins : Instr} {st st1 : List Value} (hx : p.tables.exec = Jvm.exec) (hb : c.code = cc) (hdg : decode cc pc = .ok (ins, 1)) (h : pz_B ins st = some st1)
    (k : pz_W p l e R s m args below meth c H locs cells slots Q ad nL (pc + 1) lv st1) : pz_W p l e R s m args below meth c H locs cells slots Q ad nL pc lv st := by
  intro ls hl
  unfold pz_B at h
  split at h
  · cases h
    exact lv_iadd hx hb hdg (k ls hl)
  · cases h
    exact lv_isub hx hb hdg (k ls hl)
  · cases h
    exact lv_imul hx hb hdg (k ls hl)
  · cases h
    exact lv_iand hx hb hdg (k ls hl)
  · cases h
    exact lv_ior hx hb hdg (k ls hl)
  · cases h
    exact lv_ixor hx hb hdg (k ls hl)
  · cases h
    exact lv_ishl hx hb hdg (k ls hl)
  · cases h
    exact lv_ishr hx hb hdg (k ls hl)
  · cases h
    exact lv_iushr hx hb hdg rfl (k ls hl)
  · cases h
    exact lv_ineg hx hb hdg (k ls hl)
  · cases h
    exact lv_i2l hx hb hdg rfl (k ls hl)
  · cases h
    exact lv_i2b hx hb hdg rfl (k ls hl)
  · cases h
    exact lv_i2c hx hb hdg rfl (k ls hl)
  · cases h
    exact lv_l2i hx hb hdg rfl (k ls hl)
  · cases h
    exact lv_land hx hb hdg (k ls hl)
  · cases h
    exact lv_lor hx hb hdg (k ls hl)
  · cases h
    exact lv_lxor hx hb hdg (k ls hl)
  · cases h
    exact lv_lsub hx hb hdg (k ls hl)
  · cases h
    exact lv_lmul hx hb hdg (k ls hl)
  · cases h
    exact lv_ladd hx hb hdg (k ls hl)
  · cases h
    exact lv_lshl hx hb hdg rfl (k ls hl)
  · cases h
    exact lv_lshr hx hb hdg rfl (k ls hl)
  · cases h
    exact lv_lushr hx hb hdg rfl (k ls hl)
  · cases h
    exact lv_lneg hx hb hdg (k ls hl)
  · cases h
    exact W.lcmp hx hb hdg (k ls hl)
  · split at h
    · cases h
    · rename_i hne
      cases h
      exact lv_idiv hx hb hdg hne (k ls hl)
  · split at h
    · cases h
    · rename_i hne
      cases h
      exact lv_irem hx hb hdg hne (k ls hl)
  · cases h
    exact lv_null hx hb hdg (k ls hl)
  · split at h
    · rename_i hc
      cases h
      exact lv_dup hx hb hdg ((pz_cat ad _).trans hc) (k ls hl)
    · cases h
  · split at h
    · rename_i hc
      cases h
      exact lv_pop hx hb hdg ((pz_cat ad _).trans hc) (k ls hl)
    · cases h
  · split at h
    · rename_i hc
      cases h
      exact lv_dup2_2 hx hb hdg ((pz_cat ad _).trans hc) (k ls hl)
    · split at h
      · split at h
        · rename_i hc
          cases h
          exact lv_dup2_11 hx hb hdg ((pz_cat ad _).trans hc.1) ((pz_cat ad _).trans hc.2) (k ls hl)
        · cases h
      · cases h
  · split at h
    · rename_i hc
      cases h
      exact lv_dup_x1 hx hb hdg ((pz_cat ad _).trans hc.1) ((pz_cat ad _).trans hc.2) (k ls hl)
    · cases h
  · cases h
end PZB
