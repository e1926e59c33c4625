/-! ===== an evaluator of the pure machine that the kernel can bear: codes, packed rows, a tree of cells ===== -/
/-- what is known of names: answers of one-place and two-place operations, of comparisons, and which fit a narrow array; the cells outside -/
abbrev ze_C : Type := Nat × Nat × Nat
abbrev ze_E : Type := (Instr → Value → Option Value) × (Instr → Value → Value → Option Value) × (Instr → Value → Value → Option Bool) × (Nat → Value → Bool) × (Nat → Option ze_C)
noncomputable def zs_f {α : Type} (n : Nat) (k : Nat → α) : α := Nat.rec (motive := fun _ => α) (k 0) (fun m _ => k (Nat.succ m)) n
theorem zs_f_eq {α : Type} (n : Nat) (k : Nat → α) : zs_f n k = k n := by cases n <;> rfl
/-- a value's code: four times the payload and a mark: 0 int, 1 long, 2 null or reference, 3 a name -/
def zc_nm (p : Nat) : Value := match Nat.mod p 4 with
  | 0 => .retAddr (Nat.div p 4)
  | 1 => .double (UInt64.ofNat (Nat.div p 4))
  | _ => .float 0
def zc_d (c : Nat) : Value := match Nat.mod c 4 with
  | 0 => .int (zk_i (Nat.div c 4))
  | 1 => .long (zk_l (Nat.div c 4))
  | 2 => (match Nat.div c 4 with | 0 => .null | a + 1 => .ref a)
  | _ => zc_nm (Nat.div c 4)
def zc_en : Value → Nat
  | .int x => Nat.mul 4 x.toUInt32.toNat
  | .long x => Nat.add (Nat.mul 4 x.toUInt64.toNat) 1
  | .null => 2
  | .ref a => Nat.add (Nat.mul 4 a) 6
  | .retAddr i => Nat.add (Nat.mul 16 i) 3
  | .double b => Nat.add (Nat.mul 16 b.toNat) 7
  | .float _ => 11
/-- rows of 72 bits -/
def zp_g (P D : Nat) : Nat := Nat.mod (Nat.div P D) 4722366482869645213696
def zp_s (P D v : Nat) : Nat := Nat.add (Nat.mod P D) (Nat.mul D (Nat.add v (Nat.mul 4722366482869645213696 (Nat.div P (Nat.mul D 4722366482869645213696)))))
def zp_D (i : Nat) : Nat := Nat.pow 2 (Nat.mul 72 i)
/-- cells: a head (twice the sort of an object, twice the kind of an array and one), a length, a row -/
abbrev ze_T1 : Type := ze_C × ze_C
abbrev ze_T2 : Type := ze_T1 × ze_T1
abbrev ze_T3 : Type := ze_T2 × ze_T2
abbrev ze_T4 : Type := ze_T3 × ze_T3
abbrev ze_T5 : Type := ze_T4 × ze_T4
abbrev ze_T6 : Type := ze_T5 × ze_T5
abbrev ze_T7 : Type := ze_T6 × ze_T6
abbrev ze_T8 : Type := ze_T7 × ze_T7
abbrev ze_T9 : Type := ze_T8 × ze_T8
abbrev ze_T : Type := ze_T9 × ze_T9
/-- how many cells there are, how many were made, how many slots -/
abbrev ze_M : Type := Nat × Nat × Nat
/-- an end (an answer's code, or an exception's number), or a stop at a place -/
abbrev ze_O : Type := ((Option Nat ⊕ Nat) × ze_T × ze_M) ⊕ (Nat × Nat × List Nat × ze_T × ze_M)
abbrev ze_R : Type := Option ze_O
noncomputable def ze_gs {α : Type} (b : Nat) (g : α → Nat → (ze_C → ze_R) → ze_R) (t : α × α) (a : Nat) (k : ze_C → ze_R) : ze_R := Prod.rec (motive := fun _ => ze_R) (fun l r => Nat.rec (motive := fun _ => ze_R) (g l a k) (fun _ _ => g r a k) (Nat.land a b)) t
noncomputable def ze_ss {α : Type} (b : Nat) (s : α → Nat → ze_C → (α → ze_R) → ze_R) (t : α × α) (a : Nat) (c : ze_C) (k : α × α → ze_R) : ze_R := Prod.rec (motive := fun _ => ze_R) (fun l r => Nat.rec (motive := fun _ => ze_R) (s l a c fun l => k (l, r)) (fun _ _ => s r a c fun r => k (l, r)) (Nat.land a b)) t
noncomputable def ze_g1 : ze_T1 → Nat → (ze_C → ze_R) → ze_R := ze_gs 1 (fun c _ k => k c)
noncomputable def ze_g2 : ze_T2 → Nat → (ze_C → ze_R) → ze_R := ze_gs 2 ze_g1
noncomputable def ze_g3 : ze_T3 → Nat → (ze_C → ze_R) → ze_R := ze_gs 4 ze_g2
noncomputable def ze_g4 : ze_T4 → Nat → (ze_C → ze_R) → ze_R := ze_gs 8 ze_g3
noncomputable def ze_g5 : ze_T5 → Nat → (ze_C → ze_R) → ze_R := ze_gs 16 ze_g4
noncomputable def ze_g6 : ze_T6 → Nat → (ze_C → ze_R) → ze_R := ze_gs 32 ze_g5
noncomputable def ze_g7 : ze_T7 → Nat → (ze_C → ze_R) → ze_R := ze_gs 64 ze_g6
noncomputable def ze_g8 : ze_T8 → Nat → (ze_C → ze_R) → ze_R := ze_gs 128 ze_g7
noncomputable def ze_g9 : ze_T9 → Nat → (ze_C → ze_R) → ze_R := ze_gs 256 ze_g8
noncomputable def ze_g : ze_T → Nat → (ze_C → ze_R) → ze_R := ze_gs 512 ze_g9
noncomputable def ze_s1 : ze_T1 → Nat → ze_C → (ze_T1 → ze_R) → ze_R := ze_ss 1 (fun _ _ c k => k c)
noncomputable def ze_s2 : ze_T2 → Nat → ze_C → (ze_T2 → ze_R) → ze_R := ze_ss 2 ze_s1
noncomputable def ze_s3 : ze_T3 → Nat → ze_C → (ze_T3 → ze_R) → ze_R := ze_ss 4 ze_s2
noncomputable def ze_s4 : ze_T4 → Nat → ze_C → (ze_T4 → ze_R) → ze_R := ze_ss 8 ze_s3
noncomputable def ze_s5 : ze_T5 → Nat → ze_C → (ze_T5 → ze_R) → ze_R := ze_ss 16 ze_s4
noncomputable def ze_s6 : ze_T6 → Nat → ze_C → (ze_T6 → ze_R) → ze_R := ze_ss 32 ze_s5
noncomputable def ze_s7 : ze_T7 → Nat → ze_C → (ze_T7 → ze_R) → ze_R := ze_ss 64 ze_s6
noncomputable def ze_s8 : ze_T8 → Nat → ze_C → (ze_T8 → ze_R) → ze_R := ze_ss 128 ze_s7
noncomputable def ze_s9 : ze_T9 → Nat → ze_C → (ze_T9 → ze_R) → ze_R := ze_ss 256 ze_s8
noncomputable def ze_s : ze_T → Nat → ze_C → (ze_T → ze_R) → ze_R := ze_ss 512 ze_s9
noncomputable def zs_p (P D v : Nat) (k : Nat → ze_R) : ze_R := Bool.rec (motive := fun _ => ze_R) none (zs_f (zp_s P D v) k) (Nat.blt v 4722366482869645213696)
/-- a state: locals (a row of codes, each one up; 0: nothing), stack, cells -/
abbrev ze_K : Type := Nat → List Nat → ze_T → ze_M → ze_R
abbrev ze_I : Type := ze_E → ze_K → (Nat → ze_K) → (Nat → Nat → ze_T → ze_M → ze_R) → ze_K
/-- a comparison of numbers as the kernel counts it -/
noncomputable def ze_b {α : Type} (b : Bool) (x y : α) : α := Bool.rec (motive := fun _ => α) y x b
section ZEI
noncomputable def ze_push (c : Nat) : ze_I := fun _ next _ _ lv st t m => next lv (c :: st) t m
/-- the code of a local: it must be an int, a long, a reference -/
noncomputable def ze_ild (D : Nat) : ze_I := fun _ next _ _ lv st t m => Nat.rec (motive := fun _ => ze_R) none (fun c _ => (match Nat.mod c 4 with
  | 0 => next lv (c :: st) t m
  | 3 => (match Nat.mod (Nat.div c 4) 4 with | 0 => next lv (c :: st) t m | _ => none)
  | _ => none)) (zp_g lv D)
noncomputable def ze_lld (D : Nat) : ze_I := fun _ next _ _ lv st t m => Nat.rec (motive := fun _ => ze_R) none (fun c _ => ze_b (Nat.beq (zp_g lv (Nat.mul D 4722366482869645213696)) 16) (match Nat.mod c 4 with
  | 1 => next lv (c :: st) t m
  | 3 => (match Nat.mod (Nat.div c 4) 4 with | 1 => next lv (c :: st) t m | _ => none)
  | _ => none) none) (zp_g lv D)
noncomputable def ze_ald (D : Nat) : ze_I := fun _ next _ _ lv st t m => Nat.rec (motive := fun _ => ze_R) none (fun c _ => (match Nat.mod c 4 with
  | 2 => (match Nat.div c 4 with | 0 => none | _ + 1 => next lv (c :: st) t m)
  | _ => none)) (zp_g lv D)
noncomputable def ze_ist (D : Nat) : ze_I := fun _ next _ _ lv st t m => (match st with
  | [] => none
  | c :: r => (match Nat.mod c 4 with
    | 0 => zs_p lv D (Nat.succ c) fun lv => next lv r t m
    | 3 => (match Nat.mod (Nat.div c 4) 4 with | 0 => zs_p lv D (Nat.succ c) fun lv => next lv r t m | _ => none)
    | _ => none))
noncomputable def ze_lst (D : Nat) : ze_I := fun _ next _ _ lv st t m => (match st with
  | [] => none
  | c :: r => (match Nat.mod c 4 with
    | 1 => zs_p lv D (Nat.succ c) fun lv => zs_p lv (Nat.mul D 4722366482869645213696) 16 fun lv => next lv r t m
    | 3 => (match Nat.mod (Nat.div c 4) 4 with | 1 => zs_p lv D (Nat.succ c) fun lv => zs_p lv (Nat.mul D 4722366482869645213696) 16 fun lv => next lv r t m | _ => none)
    | _ => none))
noncomputable def ze_ast (D : Nat) : ze_I := fun _ next _ _ lv st t m => (match st with
  | [] => none
  | c :: r => (match Nat.mod c 4 with
    | 2 => (match Nat.div c 4 with | 0 => none | _ + 1 => zs_p lv D (Nat.succ c) fun lv => next lv r t m)
    | _ => none))
/-- a two-place operation -/
noncomputable def ze_bin (ins : Instr) (op : Value → Value → Option Value) : ze_I := fun E next _ _ lv st t m => (match st with
  | y :: x :: r => (match op (zc_d x) (zc_d y) with
    | some v => zs_f (zc_en v) fun c => next lv (c :: r) t m
    | none => (match E.2.1 ins (zc_d x) (zc_d y) with
      | some v => zs_f (zc_en v) fun c => next lv (c :: r) t m
      | none => none))
  | _ => none)
noncomputable def ze_un (ins : Instr) (op : Value → Option Value) : ze_I := fun E next _ _ lv st t m => (match st with
  | x :: r => (match op (zc_d x) with
    | some v => zs_f (zc_en v) fun c => next lv (c :: r) t m
    | none => (match E.1 ins (zc_d x) with
      | some v => zs_f (zc_en v) fun c => next lv (c :: r) t m
      | none => none))
  | _ => none)
noncomputable def ze_inc (op : Value → Value → Option Value) (D n : Nat) : ze_I := fun E next _ _ lv st t m => Nat.rec (motive := fun _ => ze_R) none (fun c _ => (match op (zc_d c) (zc_d n) with
    | some v => zs_f (zc_en v) fun c => zs_p lv D (Nat.succ c) fun lv => next lv st t m
    | none => (match E.2.1 .iadd (zc_d c) (zc_d n) with
      | some v => zs_f (zc_en v) fun c => zs_p lv D (Nat.succ c) fun lv => next lv st t m
      | none => none))) (zp_g lv D)
def zc_ct (c : Nat) : Nat := match Nat.mod c 4 with
  | 1 => 2
  | 3 => (match Nat.mod (Nat.div c 4) 4 with | 1 => 2 | _ => 1)
  | _ => 1
noncomputable def ze_dup : ze_I := fun _ next _ _ lv st t m => (match st with
  | x :: r => (match zc_ct x with | 1 => next lv (x :: x :: r) t m | _ => none)
  | _ => none)
noncomputable def ze_pop : ze_I := fun _ next _ _ lv st t m => (match st with
  | x :: r => (match zc_ct x with | 1 => next lv r t m | _ => none)
  | _ => none)
noncomputable def ze_dup2 : ze_I := fun _ next _ _ lv st t m => (match st with
  | x :: r => (match zc_ct x with
    | 2 => next lv (x :: x :: r) t m
    | _ => (match r with
      | y :: r2 => (match zc_ct y with | 1 => next lv (x :: y :: x :: y :: r2) t m | _ => none)
      | _ => none))
  | _ => none)
noncomputable def ze_dupx1 : ze_I := fun _ next _ _ lv st t m => (match st with
  | x :: y :: r => (match zc_ct x with
    | 1 => (match zc_ct y with | 1 => next lv (x :: y :: x :: r) t m | _ => none)
    | _ => none)
  | _ => none)
noncomputable def ze_if (ins : Instr) (rl : Int32 → Int32 → Bool) (tg : Nat) : ze_I := fun E next jmp _ lv st t m => (match st with
  | x :: r => (match zc_d x with
    | .int a => ze_b (rl a 0) (jmp tg lv r t m) (next lv r t m)
    | v => (match E.2.2.1 ins v (.int 0) with
      | some true => jmp tg lv r t m
      | some false => next lv r t m
      | none => none))
  | _ => none)
noncomputable def ze_cmp (ins : Instr) (rl : Int32 → Int32 → Bool) (tg : Nat) : ze_I := fun E next jmp _ lv st t m => (match st with
  | y :: x :: r => (match zc_d x, zc_d y with
    | .int a, .int b => ze_b (rl a b) (jmp tg lv r t m) (next lv r t m)
    | v, u => (match E.2.2.1 ins v u with
      | some true => jmp tg lv r t m
      | some false => next lv r t m
      | none => none))
  | _ => none)
noncomputable def ze_goto (tg : Nat) : ze_I := fun _ _ jmp _ lv st t m => jmp tg lv st t m
noncomputable def ze_sw (ins : Instr) (len pc : Nat) : ze_I := fun _ _ jmp _ lv st t m => (match st with
  | x :: r => (match zc_d x with
    | .int a => (match pz_J ins len pc [.int a] with
      | some (tg, _) => zs_f tg fun tg => jmp tg lv r t m
      | none => none)
    | _ => none)
  | _ => none)
/-- not null -/
noncomputable def ze_nn (tg : Nat) : ze_I := fun _ _ jmp _ lv st t m => (match st with
  | x :: r => (match zc_d x with | .ref _ => jmp tg lv r t m | _ => none)
  | _ => none)
noncomputable def ze_nu : ze_I := fun _ next _ _ lv st t m => (match st with
  | x :: r => (match zc_d x with | .ref _ => next lv r t m | _ => none)
  | _ => none)
/-- a cell by its number -/
noncomputable def ze_cell (E : ze_E) (t : ze_T) (m : ze_M) (x : Nat) (k : Nat → ze_C → ze_R) : ze_R := match zc_d x with
  | .ref a => ze_b (Nat.blt a m.1) (ze_g t a (k a)) (ze_b (Nat.blt a 1099511627776) none (match E.2.2.2.2 (Nat.sub a 1099511627776) with | some c => k a c | none => none))
  | _ => none
noncomputable def ze_getf (h f D : Nat) : ze_I := fun E next _ _ lv st t m => (match st with
  | x :: r => ze_cell E t m x fun _ c => Prod.rec (motive := fun _ => ze_R) (fun h1 c => Prod.rec (motive := fun _ => ze_R) (fun n P => ze_b (Nat.beq h1 h) (ze_b (Nat.blt f n) (zs_f (zp_g P D) fun c => next lv (c :: r) t m) none) none) c) c
  | _ => none)
def ze_ft (ty : FieldType) (v : Value) : Bool := match ty, v with
  | .int, .int _ => true
  | .int, .retAddr _ => true
  | .long, .long _ => true
  | .object _, .ref _ => true
  | .array _, .ref _ => true
  | .object _, .null => true
  | .array _, .null => true
  | .boolean, .int x => x == 0 || x == 1
  | .byte, .int x => decide (vp_nar .byte x = x) && fits .byte (.int x)
  | _, _ => false
noncomputable def ze_putf (h f D : Nat) (ty : FieldType) : ze_I := fun _ next _ _ lv st t m => (match st with
  | v :: x :: r => ze_b (ze_ft ty (zc_d v)) (match zc_d x with
    | .ref a => ze_b (Nat.blt a m.1) (ze_g t a fun c => Prod.rec (motive := fun _ => ze_R) (fun h1 c => Prod.rec (motive := fun _ => ze_R) (fun n P => ze_b (Nat.beq h1 h) (ze_b (Nat.blt f n) (zs_p P D v fun P => ze_s t a (h1, n, P) fun t => next lv r t m) none) none) c) c) none
    | _ => none) none
  | _ => none)
noncomputable def ze_al : ze_I := fun E next _ _ lv st t m => (match st with
  | x :: r => ze_cell E t m x fun _ c => Prod.rec (motive := fun _ => ze_R) (fun h1 c => Prod.rec (motive := fun _ => ze_R) (fun n _ => (match Nat.mod h1 2 with | 1 => ze_b (Nat.blt n 4294967296) (zs_f (Nat.mul 4 n) fun c => next lv (c :: r) t m) none | _ => none)) c) c
  | _ => none)
/-- a new cell at the end -/
noncomputable def ze_mk (h n s P : Nat) (t : ze_T) (m : ze_M) (k : Nat → ze_T → ze_M → ze_R) : ze_R := Prod.rec (motive := fun _ => ze_R) (fun a m => Prod.rec (motive := fun _ => ze_R) (fun nc ns => ze_b (Nat.blt a 1024) (ze_s t a (h, n, P) fun t => zs_f (Nat.succ a) fun a1 => zs_f (Nat.succ nc) fun nc => zs_f (Nat.add ns s) fun ns => k a t (a1, nc, ns)) none) m) m
noncomputable def ze_newa (h : Nat) : ze_I := fun _ next _ _ lv st t m => (match st with
  | x :: r => (match Nat.mod x 4 with
    | 0 => zs_f (Nat.div x 4) fun n => ze_b (Nat.ble n 67108864) (ze_mk h n n 0 t m fun a t m => zs_f (Nat.add (Nat.mul 4 a) 6) fun c => next lv (c :: r) t m) none
    | _ => none)
  | _ => none)
noncomputable def ze_newm (h : Nat) : ze_I := fun _ next _ _ lv st t m => (match st with
  | x :: y :: r => (match Nat.mod x 4 with
    | 0 => zs_f (Nat.div x 4) fun n => ze_b (Nat.beq y 8) (ze_b (Nat.ble n 67108864) (zs_f (Nat.add (Nat.mul 4 m.1) 10) fun c1 => zs_f (Nat.add (Nat.mul 4 m.1) 14) fun c2 => zs_f (Nat.add c1 (Nat.mul 4722366482869645213696 c2)) fun P => ze_mk h 2 2 P t m fun a t m => ze_mk 3 n n 0 t m fun _ t m => ze_mk 3 n n 0 t m fun _ t m => zs_f (Nat.add (Nat.mul 4 a) 6) fun c => next lv (c :: r) t m) none) none
    | _ => none)
  | _ => none)
noncomputable def ze_new (h n P : Nat) : ze_I := fun _ next _ _ lv st t m => ze_mk h n n P t m fun a t m => zs_f (Nat.add (Nat.mul 4 a) 6) fun c => next lv (c :: st) t m
/-- few enough below: at most four, or few by their sorts -/
def ze_cs : List Nat → Nat
  | [] => 0
  | c :: r => Nat.add (zc_ct c) (ze_cs r)
def ze_four (l : List Nat) : Bool := match l with
  | [] => true
  | _ :: r => (match r with
    | [] => true
    | _ :: r => (match r with
      | [] => true
      | _ :: r => (match r with
        | [] => true
        | _ :: r => (match r with | [] => true | _ :: _ => Nat.ble (ze_cs l) 8))))
noncomputable def ze_obj : ze_I := fun _ next _ _ lv st t m => (match st with
  | x :: r => (match zc_d x with | .ref _ => ze_b (ze_four r) (next lv r t m) none | _ => none)
  | _ => none)
/-- n codes of a row from a place on, each a byte's (n from behind) -/
noncomputable def ze_by (P : Nat) (n : Nat) : Nat → Bool := Nat.rec (motive := fun _ => Nat → Bool) (fun _ => true) (fun _ ih i => Bool.rec (motive := fun _ => Bool) false (ih (Nat.succ i)) (match zc_d (zp_g P (zp_D i)) with | .int x => fits .byte (.int x) | _ => false)) n
noncomputable def ze_acp : ze_I := fun E next _ _ lv st t m => (match st with
  | n :: dp :: y :: sp :: x :: r => ze_cell E t m x fun a c => Prod.rec (motive := fun _ => ze_R) (fun h1 c => Prod.rec (motive := fun _ => ze_R) (fun n1 P1 => (match zc_d y with
    | .ref b => ze_b (Nat.blt b m.1) (ze_g t b fun c => Prod.rec (motive := fun _ => ze_R) (fun h2 c => Prod.rec (motive := fun _ => ze_R) (fun n2 P2 =>
      (match Nat.mod n 4, Nat.mod dp 4, Nat.mod sp 4 with
      | 0, 0, 0 => zs_f (Nat.div n 4) fun n => zs_f (Nat.div dp 4) fun dp => zs_f (Nat.div sp 4) fun sp => ze_b (Nat.beq h1 h2) (ze_b (Nat.ble n1 67108864) (ze_b (Nat.ble n2 67108864) (ze_b (Nat.ble (Nat.add sp n) n1) (ze_b (Nat.ble (Nat.add dp n) n2) (ze_b (ze_four r)
        (ze_b (match h1 with | 1 => Nat.blt a 1099511627776 | 3 => Nat.blt a 1099511627776 | 7 => ze_by P1 n sp | _ => false)
          (zs_f (Nat.mod (Nat.div P1 (zp_D sp)) (zp_D n)) fun Q => zs_f (Nat.add (Nat.mod P2 (zp_D dp)) (Nat.mul (zp_D dp) (Nat.add Q (Nat.mul (zp_D n) (Nat.div P2 (zp_D (Nat.add dp n))))))) fun P => ze_s t b (h2, n2, P) fun t => next lv r t m) none) none) none) none) none) none) none
      | _, _, _ => none)) c) c) none
    | _ => none)) c) c
  | _ => none)
noncomputable def ze_mm (op : Value → Value → Option Value) : ze_I := fun _ next _ _ lv st t m => (match st with
  | y :: x :: r => ze_b (ze_four r) (match op (zc_d x) (zc_d y) with
    | some v => zs_f (zc_en v) fun c => next lv (c :: r) t m
    | none => none) none
  | _ => none)
/-- array loads: the head, the code of what was never written -/
noncomputable def ze_ldx (h z : Nat) : ze_I := fun E next _ _ lv st t m => (match st with
  | i :: x :: r => (match Nat.mod i 4 with
    | 0 => ze_cell E t m x fun _ c => Prod.rec (motive := fun _ => ze_R) (fun h1 c => Prod.rec (motive := fun _ => ze_R) (fun n P => ze_b (Nat.beq h1 h) (zs_f (Nat.div i 4) fun i => ze_b (Nat.blt i n) (ze_b (Nat.ble n 2147483648) (Nat.rec (motive := fun _ => ze_R) (next lv (z :: r) t m) (fun c _ => zs_f (Nat.succ c) fun c => next lv (c :: r) t m) (zp_g P (zp_D i))) none) none) none) c) c
    | _ => none)
  | _ => none)
noncomputable def ze_ldb : ze_I := fun E next _ _ lv st t m => (match st with
  | i :: x :: r => (match Nat.mod i 4 with
    | 0 => ze_cell E t m x fun _ c => Prod.rec (motive := fun _ => ze_R) (fun h1 c => Prod.rec (motive := fun _ => ze_R) (fun n P => ze_b (match h1 with | 5 => true | 7 => true | _ => false) (zs_f (Nat.div i 4) fun i => ze_b (Nat.blt i n) (ze_b (Nat.ble n 2147483648) (zs_f (zp_g P (zp_D i)) fun c => next lv (c :: r) t m) none) none) none) c) c
    | _ => none)
  | _ => none)
noncomputable def ze_ldr : ze_I := fun E next _ _ lv st t m => (match st with
  | i :: x :: r => (match Nat.mod i 4 with
    | 0 => ze_cell E t m x fun _ c => Prod.rec (motive := fun _ => ze_R) (fun h1 c => Prod.rec (motive := fun _ => ze_R) (fun n P => ze_b (Nat.blt 8 h1) (ze_b (Nat.beq (Nat.mod h1 2) 1) (zs_f (Nat.div i 4) fun i => ze_b (Nat.blt i n) (ze_b (Nat.ble n 2147483648) (Nat.rec (motive := fun _ => ze_R) (next lv (2 :: r) t m) (fun c _ => zs_f (Nat.succ c) fun c => next lv (c :: r) t m) (zp_g P (zp_D i))) none) none) none) none) c) c
    | _ => none)
  | _ => none)
/-- what a store lays down: the code, by the array's head -/
noncomputable def ze_sv (E : ze_E) (v h : Nat) (k : Nat → ze_R) : ze_R := match zc_d v with
  | .int x => (match h with | 1 => k v | 5 => zs_f (zc_en (.int (vp_nar .boolean x))) k | 7 => zs_f (zc_en (.int (vp_nar .byte x))) k | _ => none)
  | .long _ => (match h with | 3 => k v | _ => none)
  | .retAddr s => (match h with | 1 => k v | 5 => ze_b (E.2.2.2.1 2 (.retAddr s)) (k v) none | 7 => ze_b (E.2.2.2.1 3 (.retAddr s)) (k v) none | _ => none)
  | .double _ => (match h with | 3 => k v | _ => none)
  | _ => none
noncomputable def ze_stx (hs : List Nat) : ze_I := fun E next _ _ lv st t m => (match st with
  | v :: i :: x :: r => (match Nat.mod i 4, zc_d x with
    | 0, .ref a => ze_b (Nat.blt a m.1) (ze_g t a fun c => Prod.rec (motive := fun _ => ze_R) (fun h1 c => Prod.rec (motive := fun _ => ze_R) (fun n P => ze_b (hs.contains h1) (zs_f (Nat.div i 4) fun i => ze_b (Nat.blt i n) (ze_b (Nat.ble n 2147483648) (ze_sv E v h1 fun v => zs_p P (zp_D i) v fun P => ze_s t a (h1, n, P) fun t => next lv r t m) none) none) none) c) c) none
    | _, _ => none)
  | _ => none)
noncomputable def ze_str : ze_I := fun _ next _ _ lv st t m => (match st with
  | v :: i :: x :: r => (match Nat.mod i 4, zc_d x, zc_d v with
    | 0, .ref a, .ref b => ze_b (Nat.blt a m.1) (ze_b (Nat.blt b m.1) (ze_g t a fun c => ze_g t b fun cb => Prod.rec (motive := fun _ => ze_R) (fun h1 c => Prod.rec (motive := fun _ => ze_R) (fun n P => Prod.rec (motive := fun _ => ze_R) (fun h2 _ => ze_b (Nat.beq (Nat.mod h1 2) 1) (ze_b (Nat.beq (Nat.mod h2 2) 0) (ze_b (Nat.blt 8 h1) (ze_b (match pt_cl[Nat.div h2 2]? with | some q => decide (pt_tk (Nat.div h1 2) = .object q.1) | none => false)
        (zs_f (Nat.div i 4) fun i => ze_b (Nat.blt i n) (ze_b (Nat.ble n 2147483648) (zs_p P (zp_D i) v fun P => ze_s t a (h1, n, P) fun t => next lv r t m) none) none) none) none) none) none) cb) c) c) none) none
    | _, _, _ => none)
  | _ => none)
noncomputable def ze_rv : ze_I := fun _ _ _ _ _ st t m => (match st with | [] => some (.inl (.inl none, t, m)) | _ => none)
noncomputable def ze_ri (ty : FieldType) : ze_I := fun _ _ _ _ _ st t m => (match st with
  | [c] => (match zc_d c with
    | .int x => ze_b (decide (narrow ty (.int x) = .int x)) (some (.inl (.inl (some c), t, m))) none
    | .retAddr _ => (match ty with | .int => some (.inl (.inl (some c), t, m)) | _ => none)
    | _ => none)
  | _ => none)
noncomputable def ze_rl : ze_I := fun _ _ _ _ _ st t m => (match st with
  | [c] => (match zc_d c with
    | .long _ => some (.inl (.inl (some c), t, m))
    | .double _ => some (.inl (.inl (some c), t, m))
    | _ => none)
  | _ => none)
noncomputable def ze_ra : ze_I := fun _ _ _ _ _ st t m => (match st with
  | [c] => (match zc_d c with | .ref _ => some (.inl (.inl (some c), t, m)) | _ => none)
  | _ => none)
noncomputable def ze_thr (y : Nat) : ze_I := fun _ _ _ _ _ st t m => ze_b (ze_four st) (Prod.rec (motive := fun _ => ze_R) (fun n m => Prod.rec (motive := fun _ => ze_R) (fun nc ns => zs_f (Nat.succ nc) fun nc => zs_f (Nat.add ns 6) fun ns => some (.inl (.inr y, t, (n, nc, ns)))) m) m) none
/-- arguments into locals, from the last: the row, how many slots -/
noncomputable def ze_arg (l : List Nat) : Nat → Nat → (Nat → Nat → ze_R) → ze_R := List.rec (motive := fun _ => Nat → Nat → (Nat → Nat → ze_R) → ze_R) (fun s lv k => k s lv) (fun c _ ih s lv k => (match zc_ct c with
  | 1 => zs_p lv (zp_D s) (Nat.succ c) fun lv => zs_f (Nat.succ s) fun s => ih s lv k
  | _ => zs_p lv (zp_D s) (Nat.succ c) fun lv => zs_f (Nat.succ s) fun s => zs_p lv (zp_D s) 16 fun lv => zs_f (Nat.succ s) fun s => ih s lv k)) l
/-- the first n of the stack, turned round -/
noncomputable def ze_tk (n : Nat) : List Nat → List Nat → (List Nat → List Nat → ze_R) → ze_R := Nat.rec (motive := fun _ => List Nat → List Nat → (List Nat → List Nat → ze_R) → ze_R) (fun acc st k => k acc st) (fun _ ih acc st k => (match st with
  | [] => none
  | x :: r => ih (x :: acc) r k)) n
def ze_lk : List (Nat × Nat) → Nat → Option Nat
  | [], _ => none
  | q :: t, y => if q.1 = y then some q.2 else ze_lk t y
/-- behind a call -/
noncomputable def ze_beh (hs : Option (List (Nat × Nat))) (th : Bool) (next : ze_K) (lv : Nat) (r : List Nat) (nc0 ns0 : Nat) (res : ze_R) : ze_R := match res with
  | some (.inl (o, t, m)) => Prod.rec (motive := fun _ => ze_R) (fun n m => Prod.rec (motive := fun _ => ze_R) (fun nc ns => zs_f (Nat.add nc0 nc) fun nc => zs_f (Nat.add ns0 ns) fun ns => (match o with
    | .inl none => next lv r t (n, nc, ns)
    | .inl (some c) => next lv (c :: r) t (n, nc, ns)
    | .inr y => ze_b th (match hs with
      | none => some (.inl (.inr y, t, (n, nc, ns)))
      | some l => (match ze_lk l y with
        | some v => some (.inl (.inl (some v), t, (n, nc, ns)))
        | none => none)) none)) m) m
  | _ => none
noncomputable def ze_inv (st0 : Bool) (h np k nL : Nat) (hs : Option (List (Nat × Nat))) (th : Bool) : ze_I := fun E next _ call lv st t m => ze_tk np [] st fun as r => ze_b st0
  (ze_arg as 0 0 fun s lv2 => ze_b (Nat.ble s nL) (ze_b (ze_four r) (Prod.rec (motive := fun _ => ze_R) (fun n m => Prod.rec (motive := fun _ => ze_R) (fun nc ns => ze_beh hs th next lv r nc ns (call k lv2 t (n, 0, 0))) m) m) none) none)
  (match r with
    | x :: r => ze_cell E t m x fun _ c => Prod.rec (motive := fun _ => ze_R) (fun h1 _ => ze_b (Nat.beq h1 h) (ze_arg (x :: as) 0 0 fun s lv2 => ze_b (Nat.ble s nL) (ze_b (ze_four r) (Prod.rec (motive := fun _ => ze_R) (fun n m => Prod.rec (motive := fun _ => ze_R) (fun nc ns => ze_beh hs th next lv r nc ns (call k lv2 t (n, 0, 0))) m) m) none) none) none) c
    | [] => none)
end ZEI
def zo_iadd (u v : Value) : Option Value := match u, v with | .int x, .int y => some (.int (x + y)) | _, _ => none
def zo_isub (u v : Value) : Option Value := match u, v with | .int x, .int y => some (.int (x - y)) | _, _ => none
def zo_imul (u v : Value) : Option Value := match u, v with | .int x, .int y => some (.int (x * y)) | _, _ => none
def zo_iand (u v : Value) : Option Value := match u, v with | .int x, .int y => some (.int (x &&& y)) | _, _ => none
def zo_ior (u v : Value) : Option Value := match u, v with | .int x, .int y => some (.int (x ||| y)) | _, _ => none
def zo_ixor (u v : Value) : Option Value := match u, v with | .int x, .int y => some (.int (x ^^^ y)) | _, _ => none
def zo_ishl (u v : Value) : Option Value := match u, v with | .int x, .int y => some (.int (x <<< (y &&& 31))) | _, _ => none
def zo_ishr (u v : Value) : Option Value := match u, v with | .int x, .int y => some (.int (x >>> (y &&& 31))) | _, _ => none
def zo_iushr (u v : Value) : Option Value := match u, v with | .int x, .int y => some (.int ((x.toUInt32 >>> (y.toUInt32 &&& Int32.toUInt32 31)).toInt32)) | _, _ => none
def zo_land (u v : Value) : Option Value := match u, v with | .long x, .long y => some (.long (x &&& y)) | _, _ => none
def zo_lor (u v : Value) : Option Value := match u, v with | .long x, .long y => some (.long (x ||| y)) | _, _ => none
def zo_lxor (u v : Value) : Option Value := match u, v with | .long x, .long y => some (.long (x ^^^ y)) | _, _ => none
def zo_lsub (u v : Value) : Option Value := match u, v with | .long x, .long y => some (.long (x - y)) | _, _ => none
def zo_lmul (u v : Value) : Option Value := match u, v with | .long x, .long y => some (.long (x * y)) | _, _ => none
def zo_ladd (u v : Value) : Option Value := match u, v with | .long x, .long y => some (.long (x + y)) | _, _ => none
def zo_lshl (u v : Value) : Option Value := match u, v with | .long x, .int y => some (.long (x <<< (y.toInt64 &&& 63))) | _, _ => none
def zo_lshr (u v : Value) : Option Value := match u, v with | .long x, .int y => some (.long (x >>> (y.toInt64 &&& 63))) | _, _ => none
def zo_lushr (u v : Value) : Option Value := match u, v with | .long x, .int y => some (.long ((x.toUInt64 >>> (y.toInt64.toUInt64 &&& Int64.toUInt64 63)).toInt64)) | _, _ => none
def zo_lcmp (u v : Value) : Option Value := match u, v with | .long x, .long y => some (.int (lg_cmp x y)) | _, _ => none
def zo_idiv (u v : Value) : Option Value := match u, v with | .int x, .int y => if y = 0 then none else some (.int (x / y)) | _, _ => none
def zo_irem (u v : Value) : Option Value := match u, v with | .int x, .int y => if y = 0 then none else some (.int (x - x / y * y)) | _, _ => none
def zo_min (u v : Value) : Option Value := match u, v with | .int x, .int y => some (.int (if y < x then y else x)) | _, _ => none
def zo_max (u v : Value) : Option Value := match u, v with | .int x, .int y => some (.int (if x < y then y else x)) | _, _ => none
def zo_ineg (u : Value) : Option Value := match u with | .int x => some (.int (-x)) | _ => none
def zo_i2l (u : Value) : Option Value := match u with | .int x => some (.long x.toInt64) | _ => none
def zo_i2b (u : Value) : Option Value := match u with | .int x => some (.int x.toInt8.toInt32) | _ => none
def zo_i2c (u : Value) : Option Value := match u with | .int x => some (.int (x.toUInt32 % 65536).toInt32) | _ => none
def zo_l2i (u : Value) : Option Value := match u with | .long x => some (.int x.toInt32) | _ => none
def zo_lneg (u : Value) : Option Value := match u with | .long x => some (.long (-x)) | _ => none
/-- a value at first -/
def ze_z : Value → Bool
  | .int x => x == 0
  | .long x => x == 0
  | .null => true
  | _ => false
/-- no name -/
def ze_y : Value → Bool
  | .int _ => true
  | .long _ => true
  | .null => true
  | .ref _ => true
  | _ => false
def ze_pkl : List Value → Nat
  | [] => 0
  | v :: r => Nat.add (zc_en v) (Nat.mul 4722366482869645213696 (ze_pkl r))
def ze_pka : List (Nat × Value) → Nat
  | [] => 0
  | q :: r => zp_s (ze_pka r) (zp_D q.1) (zc_en q.2)
/-- a cell outside, packed -/
def ze_pkc : pz_C → ze_C
  | .inl (k, n, z) => (2 * k + 1, n, ze_pka z)
  | .inr (ci, fs) => (2 * ci, fs.length, ze_pkl fs)
def ze_hs (j o : Nat) (cb : ByteArray) (nL : Nat) (ret : Option FieldType) (pc : Nat) : List (Nat × Nat) := (List.range 16).filterMap fun y => match pz_hr (fun t => pt_CX o t y) pc (pt_HH j) with
  | some h => (match pz_hp cb nL ret h with | some v => some (y, zc_en (.int v)) | none => none)
  | none => none
noncomputable def ze_cl (j o : Nat) (cb : ByteArray) (nL : Nat) (ret : Option FieldType) (pc hk k : Nat) : Option ze_I := match pt_mt k with
  | some (_, _, nL2, _, _, ci2, np) => if nL2 ≤ 100 ∧ ci2 < 5000 then zs_f (Nat.mul 2 ci2) fun h => some (ze_inv (hk == 4 || hk == 9) h np k nL2 (if (pt_HH j).isEmpty then none else some (ze_hs j o cb nL ret pc)) (hk == 0 || hk == 4)) else none
  | none => none
/-- an instruction's work -/
noncomputable def ze_fn (j : Nat) (q : Nat × Instr × Nat) : Option ze_I := match pt_mt j with
  | none => none
  | some (o, cb, nL, ini, ret, _, _) => (match q with
    | (pc, ins, len) => (match ins with
      | .iconst n => if len = 1 then zs_f (zc_en (.int (Int32.ofInt n))) fun c => some (ze_push c) else none
      | .bipush n => if len = 2 then zs_f (zc_en (.int (Int8.ofInt n).toInt32)) fun c => some (ze_push c) else none
      | .sipush n => if len = 3 then zs_f (zc_en (.int (Int16.ofInt n).toInt32)) fun c => some (ze_push c) else none
      | .lconst n => if len = 1 then zs_f (zc_en (.long (Int64.ofNat (n : Nat)))) fun c => some (ze_push c) else none
      | .aconst_null => if len = 1 then some (ze_push 2) else none
      | .iload_n i => if len = 1 then zs_f (zp_D i) fun D => some (ze_ild D) else none
      | .iload i => if len = 2 then zs_f (zp_D i) fun D => some (ze_ild D) else none
      | .lload_n i => if len = 1 then zs_f (zp_D i) fun D => some (ze_lld D) else none
      | .lload i => if len = 2 then zs_f (zp_D i) fun D => some (ze_lld D) else none
      | .aload_n i => if len = 1 then zs_f (zp_D i) fun D => some (ze_ald D) else none
      | .aload i => if len = 2 then zs_f (zp_D i) fun D => some (ze_ald D) else none
      | .istore_n i => if len = 1 ∧ (i : Nat) < nL then zs_f (zp_D i) fun D => some (ze_ist D) else none
      | .istore i => if len = 2 ∧ i < nL then zs_f (zp_D i) fun D => some (ze_ist D) else none
      | .lstore_n i => if len = 1 ∧ (i : Nat) + 1 < nL then zs_f (zp_D i) fun D => some (ze_lst D) else none
      | .lstore i => if len = 2 ∧ i + 1 < nL then zs_f (zp_D i) fun D => some (ze_lst D) else none
      | .astore_n i => if len = 1 ∧ (i : Nat) < nL then zs_f (zp_D i) fun D => some (ze_ast D) else none
      | .astore i => if len = 2 ∧ i < nL then zs_f (zp_D i) fun D => some (ze_ast D) else none
      | .iinc i n => if len = 3 ∧ i < nL then zs_f (zp_D i) fun D => zs_f (zc_en (.int (Int32.ofInt n))) fun c => some (ze_inc zo_iadd D c) else none
      | .iadd => if len = 1 then some (ze_bin .iadd zo_iadd) else none
      | .isub => if len = 1 then some (ze_bin .isub zo_isub) else none
      | .imul => if len = 1 then some (ze_bin .imul zo_imul) else none
      | .iand => if len = 1 then some (ze_bin .iand zo_iand) else none
      | .ior => if len = 1 then some (ze_bin .ior zo_ior) else none
      | .ixor => if len = 1 then some (ze_bin .ixor zo_ixor) else none
      | .ishl => if len = 1 then some (ze_bin .ishl zo_ishl) else none
      | .ishr => if len = 1 then some (ze_bin .ishr zo_ishr) else none
      | .iushr => if len = 1 then some (ze_bin .iushr zo_iushr) else none
      | .land => if len = 1 then some (ze_bin .land zo_land) else none
      | .lor => if len = 1 then some (ze_bin .lor zo_lor) else none
      | .lxor => if len = 1 then some (ze_bin .lxor zo_lxor) else none
      | .lsub => if len = 1 then some (ze_bin .lsub zo_lsub) else none
      | .lmul => if len = 1 then some (ze_bin .lmul zo_lmul) else none
      | .ladd => if len = 1 then some (ze_bin .ladd zo_ladd) else none
      | .lshl => if len = 1 then some (ze_bin .lshl zo_lshl) else none
      | .lshr => if len = 1 then some (ze_bin .lshr zo_lshr) else none
      | .lushr => if len = 1 then some (ze_bin .lushr zo_lushr) else none
      | .lcmp => if len = 1 then some (ze_bin .lcmp zo_lcmp) else none
      | .idiv => if len = 1 then some (ze_bin .idiv zo_idiv) else none
      | .irem => if len = 1 then some (ze_bin .irem zo_irem) else none
      | .ineg => if len = 1 then some (ze_un .ineg zo_ineg) else none
      | .i2l => if len = 1 then some (ze_un .i2l zo_i2l) else none
      | .i2b => if len = 1 then some (ze_un .i2b zo_i2b) else none
      | .i2c => if len = 1 then some (ze_un .i2c zo_i2c) else none
      | .l2i => if len = 1 then some (ze_un .l2i zo_l2i) else none
      | .lneg => if len = 1 then some (ze_un .lneg zo_lneg) else none
      | .dup => if len = 1 then some ze_dup else none
      | .pop => if len = 1 then some ze_pop else none
      | .dup2 => if len = 1 then some ze_dup2 else none
      | .dup_x1 => if len = 1 then some ze_dupx1 else none
      | .ifCond .eq off => if len = 3 then (match pz_t pc off with | some tg => zs_f tg fun tg => some (ze_if (.ifCond .eq off) (fun x y => decide (x = y)) tg) | none => none) else none
      | .ifCond .ne off => if len = 3 then (match pz_t pc off with | some tg => zs_f tg fun tg => some (ze_if (.ifCond .ne off) (fun x y => !(decide (x = y))) tg) | none => none) else none
      | .ifCond .lt off => if len = 3 then (match pz_t pc off with | some tg => zs_f tg fun tg => some (ze_if (.ifCond .lt off) (fun x y => decide (x < y)) tg) | none => none) else none
      | .ifCond .ge off => if len = 3 then (match pz_t pc off with | some tg => zs_f tg fun tg => some (ze_if (.ifCond .ge off) (fun x y => decide (y ≤ x)) tg) | none => none) else none
      | .ifCond .gt off => if len = 3 then (match pz_t pc off with | some tg => zs_f tg fun tg => some (ze_if (.ifCond .gt off) (fun x y => decide (y < x)) tg) | none => none) else none
      | .ifCond .le off => if len = 3 then (match pz_t pc off with | some tg => zs_f tg fun tg => some (ze_if (.ifCond .le off) (fun x y => decide (x ≤ y)) tg) | none => none) else none
      | .if_icmp .eq off => if len = 3 then (match pz_t pc off with | some tg => zs_f tg fun tg => some (ze_cmp (.if_icmp .eq off) (fun x y => decide (x = y)) tg) | none => none) else none
      | .if_icmp .ne off => if len = 3 then (match pz_t pc off with | some tg => zs_f tg fun tg => some (ze_cmp (.if_icmp .ne off) (fun x y => !(decide (x = y))) tg) | none => none) else none
      | .if_icmp .lt off => if len = 3 then (match pz_t pc off with | some tg => zs_f tg fun tg => some (ze_cmp (.if_icmp .lt off) (fun x y => decide (x < y)) tg) | none => none) else none
      | .if_icmp .ge off => if len = 3 then (match pz_t pc off with | some tg => zs_f tg fun tg => some (ze_cmp (.if_icmp .ge off) (fun x y => decide (y ≤ x)) tg) | none => none) else none
      | .if_icmp .gt off => if len = 3 then (match pz_t pc off with | some tg => zs_f tg fun tg => some (ze_cmp (.if_icmp .gt off) (fun x y => decide (y < x)) tg) | none => none) else none
      | .if_icmp .le off => if len = 3 then (match pz_t pc off with | some tg => zs_f tg fun tg => some (ze_cmp (.if_icmp .le off) (fun x y => decide (x ≤ y)) tg) | none => none) else none
      | .goto off => if len = 3 then (match pz_t pc off with | some tg => zs_f tg fun tg => some (ze_goto tg) | none => none) else none
      | .tableswitch d lo hi offs => some (ze_sw (.tableswitch d lo hi offs) len pc)
      | .lookupswitch d ps => some (ze_sw (.lookupswitch d ps) len pc)
      | .ifnull _ => if len = 3 then some ze_nu else none
      | .ifnonnull off => if len = 3 then (match pz_t pc off with | some tg => zs_f tg fun tg => some (ze_nn tg) | none => none) else none
      | .getfield idx => if len = 3 then (match pt_two pt_FL o idx with | some (ci, k, _, _) => if ci < 5000 then zs_f (Nat.mul 2 ci) fun h => zs_f (zp_D k) fun D => some (ze_getf h k D) else none | none => none) else none
      | .putfield idx => if len = 3 then (match pt_two pt_FL o idx with | some (ci, k, fin, ty) => if (fin = true → ini = true) ∧ ci < 5000 then zs_f (Nat.mul 2 ci) fun h => zs_f (zp_D k) fun D => some (ze_putf h k D ty) else none | none => none) else none
      | .arraylength => if len = 1 then some ze_al else none
      | .newarray aty => if len = 2 then (match pz_ak aty with | some k => zs_f (Nat.add (Nat.mul 2 k) 1) fun h => some (ze_newa h) | none => none) else none
      | .anewarray idx => if len = 3 ∧ idx < 65536 then (match pt_two pt_KAL o idx with | some k => zs_f (Nat.add (Nat.mul 2 k) 9) fun h => some (ze_newa h) | none => none) else none
      | .multianewarray idx dm => if len = 4 ∧ dm = 2 then (match pt_two pt_KAL o (idx + 65536) with | some k => zs_f (Nat.add (Nat.mul 2 k) 9) fun h => some (ze_newm h) | none => none) else none
      | .new idx => if len = 3 then (match pt_two pt_KL o idx with
        | some ci => if (pt_fz ci).all ze_z = true then zs_f (Nat.mul 2 ci) fun h => zs_f (pt_fz ci).length fun n => zs_f (ze_pkl (pt_fz ci)) fun P => some (ze_new h n P) else none
        | none => if (pt_HH j).isEmpty then (match pz_th (pt_two pt_XL) cb (.new idx) 3 o pc [] with | some y => zs_f y fun y => some (ze_thr y) | none => none) else none) else none
      | .invokespecial idx => if len = 3 then (match pt_two pt_ML o idx with
        | some (h, k) => if h = 6 then (if k = 0 then some ze_obj else none) else (if h = 2 ∨ h = 3 ∨ h = 7 then ze_cl j o cb nL ret pc h k else none)
        | none => none) else none
      | .invokevirtual idx => if len = 3 then (match pt_two pt_ML o idx with
        | some (h, k) => if h = 0 ∨ h = 5 then ze_cl j o cb nL ret pc h k else none
        | none => none) else none
      | .invokestatic idx => if len = 3 then (match pt_two pt_ML o idx with
        | some (h, k) => if h = 4 ∨ h = 9 then ze_cl j o cb nL ret pc h k else (if k = 0 then (if h = 8 then some ze_acp else (if h = 10 then some (ze_mm zo_min) else (if h = 11 then some (ze_mm zo_max) else none))) else none)
        | none => none) else none
      | .getstatic idx => if len = 3 then (match pt_two pt_STL o idx with
        | some v => if v = .ref 1099511627783 then some (ze_push 11) else (if ze_y v = true then zs_f (zc_en v) fun c => some (ze_push c) else none)
        | none => none) else none
      | .ldc idx => if len = 2 then (match pt_two pt_GL o idx with
        | some (.int x) => zs_f (zc_en (.int x)) fun c => some (ze_push c)
        | none => (match pt_two pt_LSL o idx with | some i => zs_f (zc_en (.ref (1099511627776 + i))) fun c => some (ze_push c) | none => none)
        | _ => none) else none
      | .ldc2_w idx => if len = 3 then (match pt_two pt_GL o idx with
        | some (.long x) => zs_f (zc_en (.long x)) fun c => some (ze_push c)
        | _ => none) else none
      | .iaload => if len = 1 then some (ze_ldx 1 0) else none
      | .laload => if len = 1 then some (ze_ldx 3 1) else none
      | .baload => if len = 1 then some ze_ldb else none
      | .aaload => if len = 1 then some ze_ldr else none
      | .iastore => if len = 1 then some (ze_stx [1]) else none
      | .lastore => if len = 1 then some (ze_stx [3]) else none
      | .bastore => if len = 1 then some (ze_stx [5, 7]) else none
      | .aastore => if len = 1 then some ze_str else none
      | .return_ => if len = 1 then (match ret with | none => some ze_rv | some _ => none) else none
      | .ireturn => if len = 1 then (match ret with | some ty => some (ze_ri ty) | none => none) else none
      | .lreturn => if len = 1 then (match ret with | some .long => some ze_rl | _ => none) else none
      | .areturn => if len = 1 then (match ret with | some (.object _) => some ze_ra | some (.array _) => some ze_ra | _ => none) else none
      | _ => none))
abbrev ze_F : Type := (Nat → Nat → Bool) → Nat → Nat → zk_T → zk_T → ze_K
noncomputable def ze_jmp (ih : ze_F) (sp : Nat → Nat → Bool) (d j : Nat) (tb : zk_T) (pc : Nat) : ze_K := fun lv st t m => ze_b (sp pc lv) (some (.inr (pc, lv, st, t, m))) (ih sp d j tb (zk_at tb pc) lv st t m)
noncomputable def ze_cll (ih : ze_F) (d k lv : Nat) (t : ze_T) (m : ze_M) : ze_R := Nat.rec (motive := fun _ => ze_R) none (fun d _ => (match pt_mt k, zP k with
  | some _, some tb => ih (fun _ _ => false) d k tb tb lv [] t m
  | _, _ => none)) d
noncomputable def ze_S (E : ze_E) (ih : ze_F) : ze_F := fun sp d j tb cur lv st t m => List.rec (motive := fun _ => ze_R) none (fun q rest _ => Option.rec (motive := fun _ => ze_R) none (fun f => f E (ih sp d j tb rest) (ze_jmp ih sp d j tb) (ze_cll ih d) lv st t m) (ze_fn j q)) cur
noncomputable def ze (E : ze_E) (n : Nat) : ze_F := Nat.rec (motive := fun _ => ze_F) (fun _ _ _ _ _ _ _ _ _ => none) (fun _ ih => ze_S E ih) n
/-- nothing is known of names -/
def ze_E0 : ze_E := (fun _ _ => none, fun _ _ _ => none, fun _ _ _ => none, fun _ _ => false, fun i => if i = 0 then none else (pt_look pt_OTL i).map ze_pkc)
def ze_C0 : ze_C := (0, 0, 0)
def ze_N1 : ze_T1 := (ze_C0, ze_C0)
def ze_N2 : ze_T2 := (ze_N1, ze_N1)
def ze_N3 : ze_T3 := (ze_N2, ze_N2)
def ze_N4 : ze_T4 := (ze_N3, ze_N3)
def ze_N5 : ze_T5 := (ze_N4, ze_N4)
def ze_N6 : ze_T6 := (ze_N5, ze_N5)
def ze_N7 : ze_T7 := (ze_N6, ze_N6)
def ze_N8 : ze_T8 := (ze_N7, ze_N7)
def ze_N9 : ze_T9 := (ze_N8, ze_N8)
def ze_N : ze_T := (ze_N9, ze_N9)
