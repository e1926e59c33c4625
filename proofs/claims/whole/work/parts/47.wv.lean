/-! ===== conditions of runs, reckoned ===== -/
abbrev wv_T : Type := Nat → Option (Nat ⊕ (Nat × Nat))
/-- a picture: what cells are, how many there are, their numbers, long numbers, references; cells and slots made -/
abbrev wv_G (α : Type) : Type := wv_T → Nat → (Nat → Nat → Int32) → (Nat → Nat → Int64) → (Nat → Nat → Option Nat) → Nat → Nat → α
abbrev wv_Q : Type := (Option Value ⊕ Nat) → wv_G Prop
abbrev wv_P : Type := List (Option Value) → List Value → wv_G Prop
/-- contracts of methods: arguments, the state ahead, what must hold behind -/
abbrev wv_K : Type := Nat → List Value → wv_T → Nat → (Nat → Nat → Int32) → (Nat → Nat → Int64) → (Nat → Nat → Option Nat) → wv_Q → Prop
def wv_u {α : Type} (f : Nat → Nat → α) (a k : Nat) (v : α) : Nat → Nat → α := fun b j => if b = a ∧ j = k then v else f b j
def wv_z {α : Type} (f : Nat → Nat → α) (a : Nat) (v : α) : Nat → Nat → α := fun b j => if b = a then v else f b j
def wv_n (T : wv_T) (a : Nat) (x : Nat ⊕ (Nat × Nat)) : wv_T := fun b => if b = a then some x else T b
def wv_l (lv : List (Option Value)) (i : Nat) : Option Value := match lv[i]? with | some (some v) => some v | _ => none
def wv_k (lv : List (Option Value)) (i : Nat) : List (Option Value) := match i with
  | 0 => lv
  | k + 1 => (match lv[k]? with | some (some v) => if v.category = 2 then lv.set k none else lv | _ => lv)
def wv_s1 (lv : List (Option Value)) (i : Nat) (v : Value) : List (Option Value) := (wv_k lv i).set i (some v)
def wv_s2 (lv : List (Option Value)) (i : Nat) (v : Value) : List (Option Value) := ((wv_k lv i).set i (some v)).set (i + 1) none
def wv_so : FieldType → Nat
  | .long => 1
  | .object _ => 2
  | .array _ => 2
  | _ => 0
/-- the sorts of a class's fields -/
def wv_ft (c k : Nat) : Nat := match pt_cl[c]? with
  | some q => if (q.2.1 k).2.2.1 = "J" then 1 else if (q.2.1 k).2.2.1 = "I" ∨ (q.2.1 k).2.2.1 = "Z" ∨ (q.2.1 k).2.2.1 = "B" then 0 else 2
  | none => 0
def wv_nf (c : Nat) : Nat := match pt_cl[c]? with
  | some q => if c = 14 then 2 else q.2.2
  | none => 0
def wv_v (s : Nat) (i : Int32) (l : Int64) (r : Option Nat) : Value := if s = 0 then .int i else if s = 1 then .long l else va_rf r
def wv_e (kd : Nat) (x : Value) (i : Int32) (l : Int64) (r : Option Nat) : Prop := if kd = 1 then pz_L x = l else if kd < 4 then pz_I x = i else pz_R x = r
/-- classes of one object: where it lies, and where its own arrays and objects lie -/
abbrev wv_fx : Type := Nat → Option (Nat × (Nat → Option Nat))
def wv_X (fx : wv_fx) (T : wv_T) (R : Nat → Nat → Option Nat) : Prop := ∀ c b f, fx c = some (b, f) → T b = some (.inl c) ∧ ∀ k a, f k = some a → R b k = some a
/-- the world is this picture -/
def wv_R (fx : wv_fx) (sc : pt_Sc) (w : List pz_C) (T : wv_T) (N : Nat) (I : Nat → Nat → Int32) (L : Nat → Nat → Int64) (R : Nat → Nat → Option Nat) : Prop :=
  (w.length = N ∧ wv_X fx T R) ∧ (∀ r c, T r = some (.inl c) → ∃ fs, pz_q (pt_OT sc) w r = some (.inr (c, fs)) ∧ ∀ k, k < wv_nf c → fs[k]? = some (wv_v (wv_ft c k) (I r k) (L r k) (R r k))) ∧
  (∀ r kd n, T r = some (.inr (kd, n)) → ∃ z, pz_q (pt_OT sc) w r = some (.inl (kd, n, z)) ∧ ∀ i, i < n → wv_e kd (pz_g z i) (I r i) (L r i) (R r i))
def wv_nw (ty : FieldType) (v : Value) (P : Prop) : Prop := match ty, v with
  | .int, .int _ => P
  | .long, .long _ => P
  | .object _, .ref _ => P
  | .array _, .ref _ => P
  | _, _ => (narrow ty v = v ∧ fits ty v = true) ∧ P
section WVD
-- fv: the static that is not known; hh: of a method with a table, what its handlers answer
variable (fx : wv_fx) (fv : Value) (hh : Option (Nat → Nat → Option Int32)) (sp : wv_K) (o nL : Nat) (ini : Bool) (ret : Option FieldType) (tb : zk_T) (ct : Nat → Option wv_P) (Q : wv_Q)
def wv_ls (x : Int) (go : Int → Prop) (d : Int) : List (Int × Int) → Prop
  | [] => go d
  | q :: t => (x = q.1 → go q.2) ∧ (¬ x = q.1 → wv_ls x go d t)
def wv_ts (x : Int) (go : Int → Prop) (d : Int) (lo : Int) : List Int → Prop
  | [] => go d
  | q :: t => (x = lo → go q) ∧ (¬ x = lo → wv_ts x go d (lo + 1) t)
/-- behind a call -/
def wv_c (ih : zk_T → wv_P) (pc : Nat) (t : zk_T) (lv : List (Option Value)) (st : List Value) (hk nc ns : Nat) : wv_Q := fun r T N I L R c1 s1 => match r with
  | .inl v => ih t lv (v.toList ++ st) T N I L R (nc + c1) (ns + s1)
  | .inr y => (hk = 0 ∨ hk = 4) ∧ (match hh with
    | none => Q (.inr y) T N I L R (nc + c1) (ns + s1)
    | some f => (match f pc y with
      | some v => Q (.inl (some (.int v))) T N I L R (nc + c1) (ns + s1)
      | none => False))
/-- n elements of one array in another -/
def wv_cp {α : Type} (f : Nat → Nat → α) (a sp b dp n : Nat) : Nat → Nat → α := fun r j => if r = b ∧ dp ≤ j ∧ j < dp + n then f a (sp + (j - dp)) else f r j
def wv_th (t : zk_T) (ic : Nat) : Bool := match t with
  | (_, .dup, 1) :: (_, .invokespecial i, 3) :: (_, .athrow, 1) :: _ => i == ic
  | _ => false
def wv_cat (st : List Value) : Nat := (st.map fun v => v.category).sum
def wv_S (ih : zk_T → wv_P) (cur : zk_T) : wv_P := fun lv st T N I L R nc ns => match cur with
  | [] => False
  | (pc, ins, len) :: t => (match ins with
    | .iconst n => if len = 1 then ih t lv (.int (Int32.ofInt n) :: st) T N I L R nc ns else False
    | .bipush n => if len = 2 then ih t lv (.int (Int8.ofInt n).toInt32 :: st) T N I L R nc ns else False
    | .sipush n => if len = 3 then ih t lv (.int (Int16.ofInt n).toInt32 :: st) T N I L R nc ns else False
    | .lconst n => if len = 1 then ih t lv (.long (Int64.ofNat (n : Nat)) :: st) T N I L R nc ns else False
    | .iload_n i => (match wv_l lv i with | some (.int x) => if len = 1 then ih t lv (.int x :: st) T N I L R nc ns else False | _ => False)
    | .iload i => (match wv_l lv i with | some (.int x) => if len = 2 then ih t lv (.int x :: st) T N I L R nc ns else False | _ => False)
    | .lload_n i => (match wv_l lv i with | some (.long x) => if len = 1 then ih t lv (.long x :: st) T N I L R nc ns else False | _ => False)
    | .lload i => (match wv_l lv i with | some (.long x) => if len = 2 then ih t lv (.long x :: st) T N I L R nc ns else False | _ => False)
    | .aload_n i => (match wv_l lv i with | some (.ref x) => if len = 1 then ih t lv (.ref x :: st) T N I L R nc ns else False | _ => False)
    | .aload i => (match wv_l lv i with | some (.ref x) => if len = 2 then ih t lv (.ref x :: st) T N I L R nc ns else False | _ => False)
    | .istore_n i => (match st with | .int x :: r => if len = 1 ∧ (i : Nat) < nL then ih t (wv_s1 lv i (.int x)) r T N I L R nc ns else False | _ => False)
    | .istore i => (match st with | .int x :: r => if len = 2 ∧ i < nL then ih t (wv_s1 lv i (.int x)) r T N I L R nc ns else False | _ => False)
    | .lstore_n i => (match st with | .long x :: r => if len = 1 ∧ (i : Nat) + 1 < nL then ih t (wv_s2 lv i (.long x)) r T N I L R nc ns else False | _ => False)
    | .lstore i => (match st with | .long x :: r => if len = 2 ∧ i + 1 < nL then ih t (wv_s2 lv i (.long x)) r T N I L R nc ns else False | _ => False)
    | .astore_n i => (match st with | .ref x :: r => if len = 1 ∧ (i : Nat) < nL then ih t (wv_s1 lv i (.ref x)) r T N I L R nc ns else False | _ => False)
    | .astore i => (match st with | .ref x :: r => if len = 2 ∧ i < nL then ih t (wv_s1 lv i (.ref x)) r T N I L R nc ns else False | _ => False)
    | .iinc i n => (match wv_l lv i with | some (.int x) => if len = 3 ∧ i < nL then ih t (wv_s1 lv i (.int (x + Int32.ofInt n))) st T N I L R nc ns else False | _ => False)
    | .goto off => if len = 3 ∧ 0 ≤ (pc : Int) + off then ih (zk_at tb ((pc : Int) + off).toNat) lv st T N I L R nc ns else False
    | .ifCond c off => (match st with | .int x :: r => if len = 3 ∧ 0 ≤ (pc : Int) + off then (match c with
      | .eq => (x = 0 → ih (zk_at tb ((pc : Int) + off).toNat) lv r T N I L R nc ns) ∧ (¬ x = 0 → ih t lv r T N I L R nc ns)
      | .ne => (¬ x = 0 → ih (zk_at tb ((pc : Int) + off).toNat) lv r T N I L R nc ns) ∧ (¬ ¬ x = 0 → ih t lv r T N I L R nc ns)
      | .lt => (x < 0 → ih (zk_at tb ((pc : Int) + off).toNat) lv r T N I L R nc ns) ∧ (¬ x < 0 → ih t lv r T N I L R nc ns)
      | .ge => (0 ≤ x → ih (zk_at tb ((pc : Int) + off).toNat) lv r T N I L R nc ns) ∧ (¬ 0 ≤ x → ih t lv r T N I L R nc ns)
      | .gt => (0 < x → ih (zk_at tb ((pc : Int) + off).toNat) lv r T N I L R nc ns) ∧ (¬ 0 < x → ih t lv r T N I L R nc ns)
      | .le => (x ≤ 0 → ih (zk_at tb ((pc : Int) + off).toNat) lv r T N I L R nc ns) ∧ (¬ x ≤ 0 → ih t lv r T N I L R nc ns)) else False | _ => False)
    | .if_icmp c off => (match st with | .int y :: .int x :: r => if len = 3 ∧ 0 ≤ (pc : Int) + off then (match c with
      | .eq => (x = y → ih (zk_at tb ((pc : Int) + off).toNat) lv r T N I L R nc ns) ∧ (¬ x = y → ih t lv r T N I L R nc ns)
      | .ne => (¬ x = y → ih (zk_at tb ((pc : Int) + off).toNat) lv r T N I L R nc ns) ∧ (¬ ¬ x = y → ih t lv r T N I L R nc ns)
      | .lt => (x < y → ih (zk_at tb ((pc : Int) + off).toNat) lv r T N I L R nc ns) ∧ (¬ x < y → ih t lv r T N I L R nc ns)
      | .ge => (y ≤ x → ih (zk_at tb ((pc : Int) + off).toNat) lv r T N I L R nc ns) ∧ (¬ y ≤ x → ih t lv r T N I L R nc ns)
      | .gt => (y < x → ih (zk_at tb ((pc : Int) + off).toNat) lv r T N I L R nc ns) ∧ (¬ y < x → ih t lv r T N I L R nc ns)
      | .le => (x ≤ y → ih (zk_at tb ((pc : Int) + off).toNat) lv r T N I L R nc ns) ∧ (¬ x ≤ y → ih t lv r T N I L R nc ns)) else False | _ => False)
    | .getfield idx => (match pt_two pt_FL o idx, st with
      | some (ci, k, _, ty), .ref r :: st1 => (match fx ci with
        | some (b, f) => if len = 3 ∧ r = b then (if wv_so ty = 0 then ih t lv (.int (I r k) :: st1) T N I L R nc ns else if wv_so ty = 1 then ih t lv (.long (L r k) :: st1) T N I L R nc ns else (match f k with
          | some a => ih t lv (.ref a :: st1) T N I L R nc ns
          | none => ∃ a, R r k = some a ∧ ih t lv (.ref a :: st1) T N I L R nc ns)) else False
        | none => if len = 3 then T r = some (.inl ci) ∧ (if wv_so ty = 0 then ih t lv (.int (I r k) :: st1) T N I L R nc ns else if wv_so ty = 1 then ih t lv (.long (L r k) :: st1) T N I L R nc ns else ∃ a, R r k = some a ∧ ih t lv (.ref a :: st1) T N I L R nc ns) else False)
      | _, _ => False)
    | .putfield idx => (match pt_two pt_FL o idx, st with
      | some (ci, k, fin, ty), v :: .ref r :: st1 => if len = 3 ∧ (fin = true → ini = true) then (match fx ci with
        | some (b, f) => if r = b ∧ b < 1099511627776 then wv_nw ty v (match v with
          | .int x => if wv_so ty = 0 then ih t lv st1 T N (wv_u I r k x) L R nc ns else False
          | .long x => if wv_so ty = 1 then ih t lv st1 T N I (wv_u L r k x) R nc ns else False
          | .ref x => if wv_so ty = 2 ∧ f k = none then ih t lv st1 T N I L (wv_u R r k (some x)) nc ns else False
          | _ => False) else False
        | none => (T r = some (.inl ci) ∧ r < 1099511627776) ∧ wv_nw ty v (match v with
          | .int x => if wv_so ty = 0 then ih t lv st1 T N (wv_u I r k x) L R nc ns else False
          | .long x => if wv_so ty = 1 then ih t lv st1 T N I (wv_u L r k x) R nc ns else False
          | .ref x => if wv_so ty = 2 then ih t lv st1 T N I L (wv_u R r k (some x)) nc ns else False
          | _ => False)) else False
      | _, _ => False)
    | .iaload => (match st with | .int i :: .ref r :: st1 => if len = 1 then ∃ n, T r = some (.inr (0, n)) ∧ (0 ≤ i ∧ i.toInt < n) ∧ ih t lv (.int (I r i.toNatClampNeg) :: st1) T N I L R nc ns else False | _ => False)
    | .baload => (match st with | .int i :: .ref r :: st1 => if len = 1 then ∃ k n, (k = 2 ∨ k = 3) ∧ T r = some (.inr (k, n)) ∧ (0 ≤ i ∧ i.toInt < n) ∧ ih t lv (.int (I r i.toNatClampNeg) :: st1) T N I L R nc ns else False | _ => False)
    | .laload => (match st with | .int i :: .ref r :: st1 => if len = 1 then ∃ n, T r = some (.inr (1, n)) ∧ (0 ≤ i ∧ i.toInt < n) ∧ ih t lv (.long (L r i.toNatClampNeg) :: st1) T N I L R nc ns else False | _ => False)
    | .aaload => (match st with | .int i :: .ref r :: st1 => if len = 1 then ∃ k n a, T r = some (.inr (k + 4, n)) ∧ (0 ≤ i ∧ i.toInt < n) ∧ R r i.toNatClampNeg = some a ∧ ih t lv (.ref a :: st1) T N I L R nc ns else False | _ => False)
    | .iastore => (match st with | .int x :: .int i :: .ref r :: st1 => if len = 1 then ∃ n, T r = some (.inr (0, n)) ∧ (0 ≤ i ∧ i.toInt < n) ∧ r < 1099511627776 ∧ ih t lv st1 T N (wv_u I r i.toNatClampNeg x) L R nc ns else False | _ => False)
    | .lastore => (match st with | .long x :: .int i :: .ref r :: st1 => if len = 1 then ∃ n, T r = some (.inr (1, n)) ∧ (0 ≤ i ∧ i.toInt < n) ∧ r < 1099511627776 ∧ ih t lv st1 T N I (wv_u L r i.toNatClampNeg x) R nc ns else False | _ => False)
    | .bastore => (match st with | .int x :: .int i :: .ref r :: st1 => if len = 1 then ∃ n, T r = some (.inr (2, n)) ∧ (0 ≤ i ∧ i.toInt < n) ∧ r < 1099511627776 ∧ ih t lv st1 T N (wv_u I r i.toNatClampNeg (vp_nar .boolean x)) L R nc ns else False | _ => False)
    | .invokevirtual idx => (match pt_two pt_ML o idx with
      | some (hk, k) => (match pt_mt k with
        | some (_, _, nL2, _, _, ci2, np) => (match st.drop np with
          | .ref b :: r => if len = 3 ∧ (hk = 0 ∨ hk = 5) ∧ nL2 ≤ 100 ∧ np ≤ st.length ∧ (lg_sl (.ref b :: (st.take np).reverse)).length ≤ nL2 ∧ wv_cat r ≤ 8 then (match fx ci2 with
            | some (b1, _) => if b = b1 then sp k (.ref b :: (st.take np).reverse) T N I L R (wv_c hh Q ih pc t lv r hk nc ns) else False
            | none => T b = some (.inl ci2) ∧ sp k (.ref b :: (st.take np).reverse) T N I L R (wv_c hh Q ih pc t lv r hk nc ns)) else False
          | _ => False)
        | none => False)
      | none => False)
    | .invokespecial idx => (match pt_two pt_ML o idx with
      | some (hk, k) => (match pt_mt k with
        | some (_, _, nL2, _, _, ci2, np) => (match st.drop np with
          | .ref b :: r => if len = 3 ∧ (hk = 2 ∨ hk = 3 ∨ hk = 7) ∧ nL2 ≤ 100 ∧ np ≤ st.length ∧ (lg_sl (.ref b :: (st.take np).reverse)).length ≤ nL2 ∧ wv_cat r ≤ 8 then (match fx ci2 with
            | some (b1, _) => if b = b1 then sp k (.ref b :: (st.take np).reverse) T N I L R (wv_c hh Q ih pc t lv r hk nc ns) else False
            | none => T b = some (.inl ci2) ∧ sp k (.ref b :: (st.take np).reverse) T N I L R (wv_c hh Q ih pc t lv r hk nc ns)) else False
          | _ => False)
        | none => False)
      | none => False)
    | .invokestatic idx => (match pt_two pt_ML o idx with
      | some (hk, k) => if hk = 10 ∧ k = 0 then (match st with | .int y :: .int x :: r => if len = 3 ∧ wv_cat r ≤ 8 then ih t lv (.int (if y < x then y else x) :: r) T N I L R nc ns else False | _ => False) else if hk = 11 ∧ k = 0 then (match st with | .int y :: .int x :: r => if len = 3 ∧ wv_cat r ≤ 8 then ih t lv (.int (if x < y then y else x) :: r) T N I L R nc ns else False | _ => False) else if hk = 8 ∧ k = 0 then (match st with
        | .int n :: .int dp :: .ref b :: .int sp :: .ref a :: r => if len = 3 ∧ wv_cat r ≤ 8 then ∃ kd na nb, (T a = some (.inr (kd, na)) ∧ T b = some (.inr (kd, nb))) ∧ (kd < 4 ∧ (a < 1099511627776 ∨ kd = 3) ∧ b < 1099511627776) ∧ (0 ≤ sp ∧ 0 ≤ dp ∧ 0 ≤ n) ∧ (sp.toInt + n.toInt ≤ na ∧ dp.toInt + n.toInt ≤ nb) ∧ (kd < 2 ∨ ∀ i : Nat, (i : Int) < n.toInt → fits (pt_tk kd) (.int (I a (sp.toNatClampNeg + i))) = true) ∧ (if kd = 1 then ih t lv r T N I (wv_cp L a sp.toNatClampNeg b dp.toNatClampNeg n.toNatClampNeg) R nc ns else ih t lv r T N (wv_cp I a sp.toNatClampNeg b dp.toNatClampNeg n.toNatClampNeg) L R nc ns) else False
        | _ => False) else (match pt_mt k with
        | some (_, _, nL2, _, _, _, np) => if len = 3 ∧ (hk = 4 ∨ hk = 9) ∧ nL2 ≤ 100 ∧ np ≤ st.length ∧ (lg_sl (st.take np).reverse).length ≤ nL2 ∧ wv_cat (st.drop np) ≤ 8 then sp k (st.take np).reverse T N I L R (wv_c hh Q ih pc t lv (st.drop np) hk nc ns) else False
        | none => False)
      | none => False)
    | .new idx => (match pt_two pt_KL o idx, pt_two pt_XL o idx with
      | none, some (x, ic) => if len = 3 ∧ wv_cat st ≤ 8 ∧ wv_th t ic = true ∧ hh.isNone = true then Q (.inr x) T N I L R (nc + 1) (ns + 6) else False
      | _, _ => False)
    | .tableswitch d lo hi offs => (match st with | .int x :: r => if hi = lo + offs.size - 1 ∧ 0 ≤ (pc : Int) + d ∧ offs.toList.all (fun f => decide (0 ≤ (pc : Int) + f)) = true then wv_ts x.toInt (fun off => ih (zk_at tb ((pc : Int) + off).toNat) lv r T N I L R nc ns) d lo offs.toList else False | _ => False)
    | .lookupswitch d ps => (match st with | .int x :: r => if (ps.toList.zip (ps.toList.drop 1)).all (fun (a, next) => a.1 < next.1) = true ∧ 0 ≤ (pc : Int) + d ∧ ps.toList.all (fun f => decide (0 ≤ (pc : Int) + f.2)) = true then wv_ls x.toInt (fun off => ih (zk_at tb ((pc : Int) + off).toNat) lv r T N I L R nc ns) d ps.toList else False | _ => False)
    | .ireturn => (match st with | [.int x] => (match ret with | some ty => wv_nw ty (.int x) (if len = 1 then Q (.inl (some (.int x))) T N I L R nc ns else False) | none => False) | _ => False)
    | .lreturn => (match st with | [.long x] => if len = 1 ∧ ret = some .long then Q (.inl (some (.long x))) T N I L R nc ns else False | _ => False)
    | .areturn => (match ret, st with
      | some (.object _), [.ref x] => if len = 1 then Q (.inl (some (.ref x))) T N I L R nc ns else False
      | some (.array _), [.ref x] => if len = 1 then Q (.inl (some (.ref x))) T N I L R nc ns else False
      | _, _ => False)
    | .ifnull _ => (match st with | .ref _ :: r => if len = 3 then ih t lv r T N I L R nc ns else False | _ => False)
    | .ifnonnull off => (match st with | .ref _ :: r => if len = 3 ∧ 0 ≤ (pc : Int) + off then ih (zk_at tb ((pc : Int) + off).toNat) lv r T N I L R nc ns else False | _ => False)
    | .arraylength => (match st with | .ref r :: st1 => if len = 1 then ∃ k n, T r = some (.inr (k, n)) ∧ ih t lv (.int (Int32.ofNat n) :: st1) T N I L R nc ns else False | _ => False)
    | .newarray aty => (match pz_ak aty, st with
      | some k, .int n :: st1 => if len = 2 then (N < 1000000000 ∧ 0 ≤ n ∧ n.toInt ≤ 67108864) ∧ (T N = none → ih t lv (.ref N :: st1) (wv_n T N (.inr (k, n.toNatClampNeg))) (N + 1) (wv_z I N 0) (wv_z L N 0) (wv_z R N none) (nc + 1) (ns + n.toNatClampNeg)) else False
      | _, _ => False)
    | .aastore => (match st with | .ref x :: .int i :: .ref r :: st1 => if len = 1 then ∃ k1 n c, (T r = some (.inr (k1 + 4, n)) ∧ T x = some (.inl c)) ∧ (0 ≤ i ∧ i.toInt < n) ∧ (r < 1099511627776 ∧ x < 1099511627776) ∧ (∃ q, pt_cl[c]? = some q ∧ pt_tk (k1 + 4) = .object q.1) ∧ ih t lv st1 T N I L (wv_u R r i.toNatClampNeg (some x)) nc ns else False | _ => False)
    | .getstatic idx => (match pt_two pt_STL o idx with | some v => if len = 3 then ih t lv (pt_fv fv v :: st) T N I L R nc ns else False | none => False)
    | .ldc idx => if len = 2 then (match pt_two pt_GL o idx with
      | some (.int x) => ih t lv (.int x :: st) T N I L R nc ns
      | none => (match pt_two pt_LSL o idx with | some i => ih t lv (.ref (1099511627776 + i) :: st) T N I L R nc ns | none => False)
      | _ => False) else False
    | .ldc2_w idx => if len = 3 then (match pt_two pt_GL o idx with | some (.long x) => ih t lv (.long x :: st) T N I L R nc ns | _ => False) else False
    | .ldc_w idx => if len = 3 then (match pt_two pt_GL o idx with | some (.int x) => ih t lv (.int x :: st) T N I L R nc ns | _ => False) else False
    | .return_ => (match st with | [] => if len = 1 ∧ ret = none then Q (.inl none) T N I L R nc ns else False | _ => False)
    | .idiv => (match st with | .int y :: .int x :: r => if len = 1 then (¬ y = 0) ∧ ih t lv (.int (x / y) :: r) T N I L R nc ns else False | _ => False)
    | .irem => (match st with | .int y :: .int x :: r => if len = 1 then (¬ y = 0) ∧ ih t lv (.int (x - x / y * y) :: r) T N I L R nc ns else False | _ => False)
    | _ => if len = 1 ∧ zk_g ins = 1 then (match pz_B ins st with | some st1 => ih t lv st1 T N I L R nc ns | none => False) else False)
def wv : Nat → zk_T → wv_P
  | 0, _ => fun _ _ _ _ _ _ _ _ _ => False
  | n + 1, cur => fun lv st T N I L R nc ns => (match cur with
    | [] => False
    | (pc, _, _) :: _ => (match ct pc with
      | some P => P lv st T N I L R nc ns
      | none => wv_S fx fv hh sp o nL ini ret tb Q (wv n) cur lv st T N I L R nc ns))
end WVD
