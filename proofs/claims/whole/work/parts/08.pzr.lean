/-! ===== the pure machine: tables, one step, a whole run ===== -/
/-- the instruction at a place is this one -/
def pz_dq (code : ByteArray) (pc : Nat) (ins : Instr) (len : Nat) : Bool := match decode code pc with
  | .ok (i, n) => decide (i = ins ∧ n = len)
  | _ => false
theorem pz_dq_ok {code : ByteArray} {pc : Nat} {ins : Instr} {len : Nat} (h : pz_dq code pc ins len = true) : decode code pc = .ok (ins, len) := by
  unfold pz_dq at h
  split at h
  · rename_i hq
    obtain ⟨rfl, rfl⟩ := of_decide_eq_true h
    exact hq
  · cases h
/-- n elements of one array, from sp on, laid into another from dp on -/
def pz_cp (za : List (Nat × Value)) (sp dp : Nat) : Nat → List (Nat × Value) → List (Nat × Value)
  | 0, zb => zb
  | n + 1, zb => pz_a (pz_cp za sp dp n zb) (dp + n) (pz_g za (sp + n))
/-- the row of a table that takes it: where it goes on -/
def pz_hr (cx : Nat → Option Bool) (pc : Nat) : List (Nat × Nat × Nat × Nat) → Option Nat
  | [] => none
  | q :: r => if q.1 ≤ pc ∧ pc < q.2.1 then (if q.2.2.2 = 0 then none else (match cx q.2.2.2 with
    | some true => some q.2.2.1
    | some false => pz_hr cx pc r
    | none => none)) else pz_hr cx pc r
/-- a handler that answers a number, and nothing else -/
def pz_hp (code : ByteArray) (nL : Nat) (ret : Option FieldType) (h : Nat) : Option Int32 := if ret = some .int then (match decode code h with
  | .ok (.astore_n i, 1) => if (i : Nat) < nL then (match decode code (h + 1) with
    | .ok (.iconst v, 1) => if pz_dq code (h + 2) .ireturn 1 = true then some (Int32.ofInt v) else none
    | _ => none) else none
  | .ok (.astore i, 2) => if i < nL then (match decode code (h + 2) with
    | .ok (.iconst v, 1) => if pz_dq code (h + 3) .ireturn 1 = true then some (Int32.ofInt v) else none
    | _ => none) else none
  | _ => none) else none
section PZR
-- F: fields by the owner's number and the pool's index: sort, place, final, type; K: new; KA: anewarray; G: constants and statics; M: calls: how, which method; X: an exception that new makes, and its constructor's index; mt: methods: owner's number, code, locals, constructor or not, answer, sort of the receiver, number of arguments
variable (cl : List vw_C) (tk : Nat → FieldType) (F : Nat → Nat → Option (Nat × Nat × Bool × FieldType)) (K KA : Nat → Nat → Option Nat) (G : Nat → Nat → Option Value) (M : Nat → Nat → Option (Nat × Nat)) (X : Nat → Nat → Option (Nat × Nat)) (mt : Nat → Option (Nat × ByteArray × Nat × Bool × Option FieldType × Nat × Nat)) (fz : Nat → List Value) (OT : Nat → Option pz_C) (ST : Nat → Nat → Option Value) (LS : Nat → Nat → Option Nat) (HH : Nat → List (Nat × Nat × Nat × Nat)) (CX : Nat → Nat → Nat → Option Bool)
/-- instructions on the heap that are no calls -/
def pz_S (ins : Instr) (len o : Nat) (ini : Bool) (w : List pz_C) (st : List Value) : Option (List Value × List pz_C × Nat × Nat) := match ins with
  | .getfield idx => if len = 3 then (match F o idx, st with
    | some (ci, k, _, _), .ref i :: r => (match pz_q OT w i with
      | some (.inr (cj, fs)) => if cj = ci then (match fs[k]? with | some v => some (v :: r, w, 0, 0) | none => none) else none
      | _ => none)
    | _, _ => none) else none
  | .putfield idx => if len = 3 then (match F o idx, st with
    | some (ci, k, fin, ty), v :: .ref i :: r => (match w[i]? with
      | some (.inr (cj, fs)) => if cj = ci ∧ (fin = true → ini = true) ∧ k < fs.length ∧ narrow ty v = v ∧ fits ty v = true then some (r, w.set i (.inr (ci, fs.set k v)), 0, 0) else none
      | _ => none)
    | _, _ => none) else none
  | .arraylength => if len = 1 then (match st with
    | .ref i :: r => (match pz_q OT w i with | some (.inl (_, n, _)) => some (.int (Int32.ofNat n) :: r, w, 0, 0) | _ => none)
    | _ => none) else none
  | .newarray aty => if len = 2 then (match pz_ak aty, st with
    | some k, .int n :: r => if w.length < 1000000000 ∧ ¬ n < 0 ∧ n.toNatClampNeg ≤ 67108864 then some (.ref w.length :: r, w ++ [.inl (k, n.toNatClampNeg, [])], 1, n.toNatClampNeg) else none
    | _, _ => none) else none
  | .anewarray idx => if len = 3 ∧ idx < 65536 then (match KA o idx, st with
    | some k, .int n :: r => if w.length < 1000000000 ∧ ¬ n < 0 ∧ n.toNatClampNeg ≤ 67108864 then some (.ref w.length :: r, w ++ [.inl (k + 4, n.toNatClampNeg, [])], 1, n.toNatClampNeg) else none
    | _, _ => none) else none
  | .multianewarray idx dm => if len = 4 ∧ dm = 2 then (match KA o (idx + 65536), st with
    | some k, .int b :: .int a :: r => if a = 2 ∧ w.length < 999999990 ∧ ¬ b < 0 ∧ b.toNatClampNeg ≤ 67108864 then some (.ref w.length :: r, w ++ pz_maw w.length k b.toNatClampNeg, 3, 2 + 2 * b.toNatClampNeg) else none
    | _, _ => none) else none
  | .new idx => if len = 3 then (match K o idx with
    | some ci => if w.length < 1000000000 then some (.ref w.length :: st, w ++ [.inr (ci, fz ci)], 1, (fz ci).length) else none
    | none => none) else none
  | .invokespecial idx => if len = 3 ∧ M o idx = some (6, 0) then (match st with
    | .ref _ :: r => if (r.map fun v => v.category).sum ≤ 8 then some (r, w, 0, 0) else none
    | _ => none) else none
  | .invokestatic idx => if len = 3 ∧ M o idx = some (8, 0) then (match st with
    | .int n :: .int dp :: .ref b :: .int sp :: .ref a :: r => (match pz_q OT w a, w[b]? with
      | some (.inl (ka, na, za)), some (.inl (kb, nb, zb)) => if ka = kb ∧ ka < 4 ∧ (a < 1099511627776 ∨ ka = 3) ∧ ¬ sp < 0 ∧ ¬ dp < 0 ∧ ¬ n < 0 ∧ sp.toNatClampNeg + n.toNatClampNeg ≤ na ∧ dp.toNatClampNeg + n.toNatClampNeg ≤ nb ∧ (r.map fun v => v.category).sum ≤ 8 ∧ (ka < 2 ∨ (List.range n.toNatClampNeg).all (fun i => fits (tk ka) (.int (pz_I (pz_g za (sp.toNatClampNeg + i))))) = true) then some (r, w.set b (.inl (kb, nb, pz_cp za sp.toNatClampNeg dp.toNatClampNeg n.toNatClampNeg zb)), 0, 0) else none
      | _, _ => none)
    | _ => none) else (if len = 3 ∧ M o idx = some (10, 0) then (match st with
      | .int y :: .int x :: r => if (r.map fun v => v.category).sum ≤ 8 then some (.int (if y < x then y else x) :: r, w, 0, 0) else none
      | _ => none) else (if len = 3 ∧ M o idx = some (11, 0) then (match st with
        | .int y :: .int x :: r => if (r.map fun v => v.category).sum ≤ 8 then some (.int (if x < y then y else x) :: r, w, 0, 0) else none
        | _ => none) else none))
  | .getstatic idx => if len = 3 then (match ST o idx with | some v => some (v :: st, w, 0, 0) | none => none) else none
  | .ldc idx => if len = 2 then (match G o idx with
    | some (.int x) => some (.int x :: st, w, 0, 0)
    | none => (match LS o idx with | some i => some (.ref (1099511627776 + i) :: st, w, 0, 0) | none => none)
    | _ => none) else none
  | .ldc2_w idx => if len = 3 then (match G o idx with | some (.long x) => some (.long x :: st, w, 0, 0) | _ => none) else none
  | .ldc_w idx => if len = 3 then (match G o idx with | some (.int x) => some (.int x :: st, w, 0, 0) | _ => none) else none
  | _ => if len = 1 then (match pz_AL OT ins w st with
    | some st1 => some (st1, w, 0, 0)
    | none => (match pz_AS ins cl tk w st with
      | some (w1, st1) => some (st1, w1, 0, 0)
      | none => none)) else none
/-- a return: what it answers -/
def pz_ret (ins : Instr) (len : Nat) (ret : Option FieldType) (st : List Value) : Option (Option Value) := match ins, ret, st with
  | .return_, none, [] => if len = 1 then some none else none
  | .ireturn, some ty, [.int x] => if len = 1 ∧ narrow ty (.int x) = .int x then some (some (.int x)) else none
  | .lreturn, some .long, [.long x] => if len = 1 then some (some (.long x)) else none
  | .areturn, some (.object _), [.ref x] => if len = 1 then some (some (.ref x)) else none
  | .areturn, some (.array _), [.ref x] => if len = 1 then some (some (.ref x)) else none
  | _, _, _ => none
/-- a call: how, which method, its arguments (the receiver first), the stack below -/
def pz_K (ins : Instr) (len o : Nat) (w : List pz_C) (st : List Value) : Option (Nat × Nat × List Value × List Value) :=
  match (match ins with | .invokevirtual idx => (M o idx).bind (fun q => if len = 3 ∧ (q.1 = 0 ∨ q.1 = 5) then some q else none) | .invokespecial idx => (M o idx).bind (fun q => if len = 3 ∧ (q.1 = 2 ∨ q.1 = 3 ∨ q.1 = 7) then some q else none) | .invokestatic idx => (M o idx).bind (fun q => if len = 3 ∧ (q.1 = 4 ∨ q.1 = 9) then some q else none) | _ => none) with
  | none => none
  | some (h, j) => (match mt j with
    | none => none
    | some (_, _, nL, _, _, ci, np) =>
      if nL ≤ 100 ∧ np ≤ st.length then
        (if h = 4 ∨ h = 9 then (if (lg_sl (st.take np).reverse).length ≤ nL ∧ ((st.drop np).map fun v => v.category).sum ≤ 8 then some (h, j, (st.take np).reverse, st.drop np) else none) else (match st.drop np with
          | .ref b :: r => (match pz_q OT w b with
            | some (.inr (cj, _)) => if cj = ci ∧ (lg_sl (.ref b :: (st.take np).reverse)).length ≤ nL ∧ (r.map fun v => v.category).sum ≤ 8 then some (h, j, .ref b :: (st.take np).reverse, r) else none
            | _ => none)
          | _ => none))
      else none)
abbrev pz_O : Type := (Option Value ⊕ Nat) × List pz_C × Nat × Nat
/-- 'throw new E()': the exception's number -/
def pz_th (code : ByteArray) (ins : Instr) (len o pc : Nat) (st : List Value) : Option Nat := match ins with
  | .new idx => (match X o idx with
    | some (x, ic) => if len = 3 ∧ (st.map fun v => v.category).sum ≤ 8 ∧ pz_dq code (pc + 3) .dup 1 = true ∧ pz_dq code (pc + 4) (.invokespecial ic) 3 = true ∧ pz_dq code (pc + 7) .athrow 1 = true then some x else none
    | none => none)
  | _ => none
/-- a run of method j from this place: n bounds the steps of each frame, d the depth -/
def pz_run : Nat → Nat → Nat → Nat → List (Nat × Value) → List Value → List pz_C → Nat → Nat → Option pz_O
  | 0, _, _, _, _, _, _, _, _ => none
  | n + 1, d, j, pc, lv, st, w, nc, ns => (match mt j with
    | none => none
    | some (o, code, nL, ini, ret, _, _) => (match decode code pc with
      | .error _ => none
      | .ok (ins, len) => (match pz_A ins nL lv st with
        | some (len1, lv1, st1) => if len1 = len then pz_run n d j (pc + len) lv1 st1 w nc ns else none
        | none => (match (if len = 1 then pz_B ins st else none) with
          | some st1 => pz_run n d j (pc + 1) lv st1 w nc ns
          | none => (match pz_J ins len pc st with
            | some (pc1, st1) => pz_run n d j pc1 lv st1 w nc ns
            | none => (match pz_S cl tk F K KA G M fz OT ST LS ins len o ini w st with
              | some (st1, w1, c1, s1) => pz_run n d j (pc + len) lv st1 w1 (nc + c1) (ns + s1)
              | none => (match pz_ret ins len ret st with
                | some r => some (.inl r, w, nc, ns)
                | none => (match (if (HH j).isEmpty then pz_th X code ins len o pc st else none) with
                  | some x => some (.inr x, w, nc + 1, ns + 6)
                  | none => (match pz_K M mt OT ins len o w st, d with
                    | some (hk, k, as, st1), d1 + 1 => (match pz_run n d1 k 0 (lv_args 0 as) [] w 0 0 with
                      | none => none
                      | some (.inl r, w1, c1, s1) => pz_run n d j (pc + 3) lv (r.toList ++ st1) w1 (nc + c1) (ns + s1)
                      | some (.inr x, w1, c1, s1) => if hk = 0 ∨ hk = 4 then (if (HH j).isEmpty then some (.inr x, w1, nc + c1, ns + s1) else (match pz_hr (fun t => CX o t x) pc (HH j) with
                        | some h => (match pz_hp code nL ret h with
                          | some v => some (.inl (some (.int v)), w1, nc + c1, ns + s1)
                          | none => none)
                        | none => none)) else none)
                    | _, _ => none)))))))))
end PZR
