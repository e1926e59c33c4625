/-! ===== the class's hunt, counted with names for what the search leaves behind ===== -/
/-- what is known of the turn's name -/
def zh_bx : zb_B := [(200, 2147483648, 2148383648), (201, 2147483649, 2148383649)]
def zh_bn (ins : Instr) (x y : Value) : Option Value := match ins, x, y with
  | .iadd, .retAddr 200, .int z => if z = 1 then some (.retAddr 201) else none
  | _, _, _ => none
def zh_E : ze_E := (fun _ _ => none, zh_bn, zb_j zh_bx 0, fun _ _ => false, fun i => if i = 0 then none else (pt_look pt_OTL i).map ze_pkc)
def zh_l1 : List Nat := [3363, 3379, 3395, 3411, 3427, 3443, 3459, 3475, 3491, 3507, 3523, 3539, 3555]
def zh_l2 : List Nat := [3683, 3699, 3715, 3731, 3747, 3763, 3779, 3795, 3811, 3827, 3843, 3859, 3875]
def zh_T (t : ze_T) (aT aL : Nat) (l1 l2 : List Nat) : ze_T := zt_l t [(aT, (1, 13, zr l1)), (aL, (1, 13, zr l2))]
def zh_lv (lv d c : Nat) : Nat := zp_s (zp_s lv (zp_D 7) (Nat.add (Nat.mul 4 d) 1)) (zp_D 8) (Nat.succ c)
def zh_m (m m' : ze_M) : Bool := Nat.beq m.1 m'.1 && Nat.beq m.2.1 m'.2.1 && Nat.beq m.2.2 m'.2.2
noncomputable def zh_r (sp : Nat → Nat → Bool) (lv : Nat) (t : ze_T) (m : ze_M) : ze_R := ze zh_E 20000 sp 500 322 zt_322 (zk_at zt_322 32) lv [] t m
noncomputable def zh_try (lv : Nat) (t : ze_T) (m : ze_M) (aT aL d x : Nat) : Bool := match zh_r (fun pc _ => Nat.beq pc 32) (zh_lv lv d 3203) (zh_T t aT aL (zh_l1.set d (4 * x)) zh_l2) m with
  | some (.inr (pc, lv2, st2, t2, m2)) => Nat.beq pc 32 && Nat.beq lv2 (zh_lv lv (d + 1) 3219) && st2.isEmpty && zh_m m2 m && Nat.beq (Nat.mod (zp_g (zt_g t2 aL).2.2 (zp_D d)) 4) 0 && zq_t t2 (zh_T t aT aL ((zh_l1.set d (4 * x)).set (d + 1) 0) (zh_l2.set d (zp_g (zt_g t2 aL).2.2 (zp_D d))))
  | _ => false
noncomputable def zh_pop (k c lv : Nat) (t : ze_T) (m : ze_M) (aT aL d x : Nat) : Bool := match zh_r (fun pc _ => Nat.beq pc 32) (zh_lv lv (d + 1) 3203) (zh_T t aT aL ((if d + 1 < k then zh_l1.set (d + 1) (4 * c) else zh_l1).set d (4 * x)) zh_l2) m with
  | some (.inr (pc, lv2, st2, t2, m2)) => Nat.beq pc 32 && Nat.beq lv2 (zh_lv lv d 3219) && st2.isEmpty && zh_m m2 m && zq_t t2 (zh_T t aT aL ((if d + 1 < k then zh_l1.set (d + 1) (4 * c) else zh_l1).set d (4 * (x + 1))) zh_l2)
  | _ => false
noncomputable def zh_exit (c lv : Nat) (t : ze_T) (m : ze_M) (aT aL : Nat) : Bool := match zh_r (fun _ _ => false) (zh_lv lv 0 3203) (zh_T t aT aL (zh_l1.set 0 (4 * c)) zh_l2) m with
  | some (.inl (.inl (some v), t2, m2)) => Nat.beq v 0 && zh_m m2 m && zq_t t2 (zh_T t aT aL (zh_l1.set 0 (4 * c)) zh_l2)
  | _ => false
/-- slots of locals without names -/
def zh_nl (lv : Nat) : Bool := (List.range 30).all (fun i => match zp_g lv (zp_D i) with | 0 => true | c + 1 => Nat.beq c 15 || !(Nat.beq (Nat.mod c 4) 3)) && Nat.blt lv (zp_D 30)
def zh_Fe (c : Nat) : Nat → Nat → Nat
  | 0, _ => 1
  | e + 1, y => y * (1 + zh_Fe c e c) + 1
/-- the state from which on names stand -/
noncomputable def zh_all (k c lv : Nat) (t : ze_T) (m : ze_M) (aT aL : Nat) : Bool :=
  Nat.ble 1 k && Nat.ble k 12 && Nat.ble 1 c && Nat.ble c 8 && Nat.blt aT m.1 && Nat.blt aL m.1 && Nat.ble m.1 1024 && !(Nat.beq aT aL) && zn_t t && zh_nl lv
  && Nat.beq (zt_g t aT).1 1 && Nat.beq (zt_g t aT).2.1 13 && Nat.blt (zt_g t aT).2.2 (zp_D 13) && Nat.beq (zt_g t aL).1 1 && Nat.beq (zt_g t aL).2.1 13 && Nat.blt (zt_g t aL).2.2 (zp_D 13)
  && (List.range 13).all (fun i => Nat.beq (Nat.mod (zp_g (zt_g t aT).2.2 (zp_D i)) 4) 0 && Nat.beq (Nat.mod (zp_g (zt_g t aL).2.2 (zp_D i)) 4) 0)
  && (List.range (k - 1)).all (fun i => Nat.beq (zp_g (zt_g t aT).2.2 (zp_D i)) 0) && Nat.beq (zp_g (zt_g t aT).2.2 (zp_D (k - 1))) (4 * c)
  && Nat.beq (zp_g lv (zp_D 7)) (4 * (k - 1) + 1) && Nat.beq (Nat.mod (zp_g lv (zp_D 8)) 4) 1 && Nat.ble (zp_g lv (zp_D 8)) 1000
  && (List.range (k + 1)).all (fun e => Nat.ble (zh_Fe c e c) 60000)
  && (List.range k).all (fun d => (List.range c).all (fun x => zh_try lv t m aT aL d x)) && (List.range k).all (fun d => (List.range c).all (fun x => zh_pop k c lv t m aT aL d x)) && zh_exit c lv t m aT aL
/-- nothing is known of names -/
def zh_E0 : ze_E := (fun _ _ => none, fun _ _ _ => none, fun _ _ _ => none, fun _ _ => false, fun i => if i = 0 then none else (pt_look pt_OTL i).map ze_pkc)
noncomputable def zh_stp (ih : Nat → ze_T → ze_M → ze_R) (lv : Nat) (t : ze_T) (m : ze_M) : ze_R := match ze zh_E0 20000 (fun pc _ => Nat.beq pc 32) 500 322 zt_322 (zk_at zt_322 32) lv [] t m with
    | some (.inr (pc, lv2, st2, t2, m2)) => ze_b (Nat.beq pc 32 && st2.isEmpty) (ih lv2 t2 m2) none
    | _ => none
noncomputable def zh_it (n : Nat) : Nat → ze_T → ze_M → ze_R := Nat.rec (motive := fun _ => Nat → ze_T → ze_M → ze_R) (fun lv t m => some (.inr (32, lv, [], t, m))) (fun _ ih => zh_stp ih) n
def zh_ad (c : Nat) : Nat := Nat.div (Nat.sub c 6) 4
noncomputable def zh_seek (lv : Nat) (t : ze_T) (m : ze_M) : Option ((Option Nat ⊕ Nat) × ze_T × ze_M) := match zq zh_E0 20000 (fun pc => Nat.beq pc 32) 400 (fun _ _ => false) 500 322 zt_322 (zk_at zt_322 0) lv [] t m with
  | some (.inr (pc0, lv0, st0, t0, m0)) => (match zh_it (Nat.div (zp_g lv0 (zp_D 4)) 4 + 2 * (Nat.div (zp_g lv0 (zp_D 5)) 4) - 1) lv0 t0 m0 with
    | some (.inr (pc1, lv1, st1, t1, m1)) =>
      if (Nat.beq pc0 32 && st0.isEmpty && Nat.beq pc1 32 && st1.isEmpty && zh_all (Nat.div (zp_g lv0 (zp_D 4)) 4) (Nat.div (zp_g lv0 (zp_D 5)) 4) lv1 t1 m1 (zh_ad (zp_g (zt_g t1 (zh_ad (zp_g lv1 (zp_D 0) - 1))).2.2 (zp_D 0))) (zh_ad (zp_g (zt_g t1 (zh_ad (zp_g lv1 (zp_D 0) - 1))).2.2 (zp_D 2)))) = true
      then some (.inl (some 0), zt_l t1 [(zh_ad (zp_g (zt_g t1 (zh_ad (zp_g lv1 (zp_D 0) - 1))).2.2 (zp_D 0)), (10000, 0, 0)), (zh_ad (zp_g (zt_g t1 (zh_ad (zp_g lv1 (zp_D 0) - 1))).2.2 (zp_D 2)), (10000, 0, 0))], m1)
      else none
    | _ => none)
  | _ => none
