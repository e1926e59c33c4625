/-! ===== a strict run of the pure machine: what the kernel can count ===== -/
abbrev zk_T : Type := List (Nat × Instr × Nat)
abbrev zk_R : Type := Option pz_O
noncomputable def zk_f (n : Nat) (k : Nat → zk_R) : zk_R := Nat.rec (motive := fun _ => zk_R) (k 0) (fun m _ => k (Nat.succ m)) n
theorem zk_f_eq (n : Nat) (k : Nat → zk_R) : zk_f n k = k n := by cases n <;> rfl
def zk_i (n : Nat) : Int32 := (UInt32.ofNat n).toInt32
def zk_l (n : Nat) : Int64 := (UInt64.ofNat n).toInt64
theorem zk_i_eq (y : Int32) : zk_i y.toUInt32.toNat = y := by
  unfold zk_i
  rw [UInt32.ofNat_toNat]
  rfl
theorem zk_l_eq (y : Int64) : zk_l y.toUInt64.toNat = y := by
  unfold zk_l
  rw [UInt64.ofNat_toNat]
  rfl
noncomputable def zk_v (v : Value) (k : Value → zk_R) : zk_R := match v with
  | .int y => zk_f y.toUInt32.toNat fun n => k (.int (zk_i n))
  | .long y => zk_f y.toUInt64.toNat fun n => k (.long (zk_l n))
  | .ref a => zk_f a fun a => k (.ref a)
  | .null => k .null
  | v => k v
theorem zk_v_eq (v : Value) (k : Value → zk_R) : zk_v v k = k v := by
  cases v with
  | int y => show zk_f y.toUInt32.toNat (fun n => k (.int (zk_i n))) = _; rw [zk_f_eq, zk_i_eq]
  | long y => show zk_f y.toUInt64.toNat (fun n => k (.long (zk_l n))) = _; rw [zk_f_eq, zk_l_eq]
  | ref a => show zk_f a (fun a => k (.ref a)) = _; rw [zk_f_eq]
  | _ => rfl
noncomputable def zk_vl (l : List Value) : (List Value → zk_R) → zk_R := List.rec (motive := fun _ => (List Value → zk_R) → zk_R) (fun k => k []) (fun v _ ih k => zk_v v fun v => ih fun t => k (v :: t)) l
theorem zk_vl_eq : ∀ (l : List Value) (k : List Value → zk_R), zk_vl l k = k l
  | [], k => rfl
  | v :: t, k => by
    show zk_v v (fun v => zk_vl t fun t => k (v :: t)) = _
    rw [zk_v_eq, zk_vl_eq t]
noncomputable def zk_pl (l : List (Nat × Value)) : (List (Nat × Value) → zk_R) → zk_R := List.rec (motive := fun _ => (List (Nat × Value) → zk_R) → zk_R) (fun k => k []) (fun q _ ih k => zk_f q.1 fun i => zk_v q.2 fun v => ih fun t => k ((i, v) :: t)) l
theorem zk_pl_eq : ∀ (l : List (Nat × Value)) (k : List (Nat × Value) → zk_R), zk_pl l k = k l
  | [], k => rfl
  | q :: t, k => by
    show zk_f q.1 (fun i => zk_v q.2 fun v => zk_pl t fun t => k ((i, v) :: t)) = _
    rw [zk_f_eq, zk_v_eq, zk_pl_eq t]
noncomputable def zk_c (c : pz_C) (k : pz_C → zk_R) : zk_R := match c with
  | .inl (a, n, z) => zk_f a fun a => zk_f n fun n => zk_pl z fun z => k (.inl (a, n, z))
  | .inr (ci, fs) => zk_f ci fun ci => zk_vl fs fun fs => k (.inr (ci, fs))
theorem zk_c_eq (c : pz_C) (k : pz_C → zk_R) : zk_c c k = k c := by
  cases c with
  | inl y =>
    obtain ⟨a, n, z⟩ := y
    show zk_f a (fun a => zk_f n fun n => zk_pl z fun z => k (.inl (a, n, z))) = _
    rw [zk_f_eq, zk_f_eq, zk_pl_eq]
  | inr y =>
    obtain ⟨ci, fs⟩ := y
    show zk_f ci (fun ci => zk_vl fs fun fs => k (.inr (ci, fs))) = _
    rw [zk_f_eq, zk_vl_eq]
noncomputable def zk_w (w : List pz_C) : Nat → (List pz_C → zk_R) → zk_R := List.rec (motive := fun _ => Nat → (List pz_C → zk_R) → zk_R) (fun _ k => k []) (fun c t ih i k => Nat.rec (motive := fun _ => zk_R) (zk_c c fun c => k (c :: t)) (fun i _ => ih i fun t => k (c :: t)) i) w
theorem zk_w_eq : ∀ (w : List pz_C) (i : Nat) (k : List pz_C → zk_R), zk_w w i k = k w
  | [], i, k => rfl
  | c :: t, 0, k => by
    show zk_c c (fun c => k (c :: t)) = _
    rw [zk_c_eq]
  | c :: t, i + 1, k => by
    show zk_w t i (fun t => k (c :: t)) = _
    rw [zk_w_eq t]
/-- the kinds of instructions -/
def zk_g : Instr → Nat
  | .iconst _ => 0 | .bipush _ => 0 | .sipush _ => 0 | .lconst _ => 0 | .iload_n _ => 0 | .iload _ => 0 | .lload_n _ => 0 | .lload _ => 0 | .aload_n _ => 0 | .aload _ => 0
  | .istore_n _ => 0 | .istore _ => 0 | .lstore_n _ => 0 | .lstore _ => 0 | .astore_n _ => 0 | .astore _ => 0 | .iinc _ _ => 0
  | .ifCond _ _ => 2 | .if_icmp _ _ => 2 | .goto _ => 2 | .tableswitch .. => 2 | .lookupswitch .. => 2 | .ifnull _ => 2 | .ifnonnull _ => 2
  | .getfield _ => 3 | .putfield _ => 4 | .arraylength => 3 | .newarray _ => 4 | .anewarray _ => 4 | .multianewarray .. => 4 | .new _ => 4 | .invokespecial _ => 4 | .invokestatic _ => 4 | .invokevirtual _ => 4 | .getstatic _ => 3 | .ldc _ => 3 | .ldc2_w _ => 3
  | .iaload => 3 | .laload => 3 | .baload => 3 | .aaload => 3 | .iastore => 4 | .lastore => 4 | .bastore => 4 | .aastore => 4
  | .ireturn => 5 | .lreturn => 5 | .areturn => 5 | .return_ => 5
  | _ => 1
/-- which cell a store changes (for the counting alone) -/
def zk_ci (ins : Instr) (st : List Value) (w : List pz_C) : Nat := match ins with
  | .putfield _ => (match st with | _ :: .ref i :: _ => i | _ => 0)
  | .newarray _ => w.length
  | .anewarray _ => w.length
  | .multianewarray .. => w.length
  | .new _ => w.length
  | _ => (match st with | _ :: _ :: .ref i :: _ => i | _ => 0)
/-- the rest of a table from a place on -/
def zk_at (tb : zk_T) (pc : Nat) : zk_T := match tb with
  | [] => []
  | q :: t => if q.1 = pc then q :: t else zk_at t pc
abbrev zk_F : Type := Nat → zk_T → zk_T → Nat → Nat → ByteArray → Nat → Bool → Option FieldType → List (Nat × Value) → List Value → List pz_C → Nat → Nat → zk_R
section ZKA
variable (pr : Nat → Option zk_T) (sc : pt_Sc)
def zk_s (ins : Instr) (len o : Nat) (ini : Bool) (w : List pz_C) (st : List Value) : Option (List Value × List pz_C × Nat × Nat) := pz_S pt_cl pt_tk (pt_two pt_FL) (pt_two pt_KL) (pt_two pt_KAL) (pt_two pt_GL) (pt_two pt_ML) pt_fz (pt_OT sc) (pt_STf sc.2.2) (pt_two pt_LSL) ins len o ini w st
/-- a call: into the method, and behind it -/
noncomputable def zk_call (ih : zk_F) (d : Nat) (tb t : zk_T) (j o : Nat) (cb : ByteArray) (nL : Nat) (ini : Bool) (ret : Option FieldType) (lv : List (Nat × Value)) (st : List Value) (w : List pz_C) (nc ns : Nat) (pc : Nat) (ins : Instr) (len : Nat) : zk_R :=
  match pz_K (pt_two pt_ML) pt_mt (pt_OT sc) ins len o w st, d with
  | some (hk, k, as, st1), d1 + 1 => (match pt_mt k, pr k with
    | some (o2, cb2, nL2, ini2, ret2, _, _), some tb2 => zk_pl (lv_args 0 as) fun lv2 => zk_vl st1 fun st1 => (match ih d1 tb2 tb2 k o2 cb2 nL2 ini2 ret2 lv2 [] w 0 0 with
      | none => none
      | some (.inl r, w1, c1, s1) => zk_f (nc + c1) fun nc => zk_f (ns + s1) fun ns => zk_vl (r.toList ++ st1) fun st1 => ih d tb t j o cb nL ini ret lv st1 w1 nc ns
      | some (.inr y, w1, c1, s1) => if hk = 0 ∨ hk = 4 then (if (pt_HH j).isEmpty then some (.inr y, w1, nc + c1, ns + s1) else (match pz_hr (fun t => pt_CX o t y) pc (pt_HH j) with
        | some h => (match pz_hp cb nL ret h with
          | some v => some (.inl (some (.int v)), w1, nc + c1, ns + s1)
          | none => none)
        | none => none)) else none)
    | _, _ => none)
  | _, _ => none
noncomputable def zk_S (ih : zk_F) : zk_F := fun d tb cur j o cb nL ini ret lv st w nc ns => match cur with
  | [] => none
  | (pc, ins, len) :: t => (match zk_g ins with
    | 0 => (match pz_A ins nL lv st with
      | some (len1, lv1, st1) => if len1 = len then zk_pl lv1 fun lv1 => zk_vl st1 fun st1 => ih d tb t j o cb nL ini ret lv1 st1 w nc ns else none
      | none => none)
    | 1 => if len = 1 then (match pz_B ins st with
      | some st1 => zk_vl st1 fun st1 => ih d tb t j o cb nL ini ret lv st1 w nc ns
      | none => none) else none
    | 2 => (match pz_J ins len pc st with
      | some (pc1, st1) => zk_f pc1 fun pc1 => zk_vl st1 fun st1 => ih d tb (zk_at tb pc1) j o cb nL ini ret lv st1 w nc ns
      | none => none)
    | 3 => (match zk_s sc ins len o ini w st with
      | some (st1, w1, c1, s1) => zk_vl st1 fun st1 => ih d tb t j o cb nL ini ret lv st1 w1 (nc + c1) (ns + s1)
      | none => none)
    | 4 => (match zk_s sc ins len o ini w st with
      | some (st1, w1, c1, s1) => zk_vl st1 fun st1 => zk_f (nc + c1) fun nc => zk_f (ns + s1) fun ns => zk_w w1 (zk_ci ins st w) fun w1 => ih d tb t j o cb nL ini ret lv st1 w1 nc ns
      | none => (match (if (pt_HH j).isEmpty then pz_th (pt_two pt_XL) cb ins len o pc st else none) with
        | some y => some (.inr y, w, nc + 1, ns + 6)
        | none => zk_call pr sc ih d tb t j o cb nL ini ret lv st w nc ns pc ins len))
    | _ => (match pz_ret ins len ret st with
      | some r => some (.inl r, w, nc, ns)
      | none => none))
noncomputable def zk (n : Nat) : zk_F := Nat.rec (motive := fun _ => zk_F) (fun _ _ _ _ _ _ _ _ _ _ _ _ _ _ => none) (fun _ ih => zk_S pr sc ih) n
end ZKA
