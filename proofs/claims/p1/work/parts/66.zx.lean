/-! ===== the model's search, counted with names for the word ===== -/
def zr_keep (a : Nat) : Bool := Nat.ble 460 a && Nat.ble a 536
noncomputable def zw_0 (a : Nat) (c : ze_C) : ze_C := ze_b (zr_keep a) c (10000, 0, 0)
noncomputable def zw_s {α : Type} (b : Nat) (f : Nat → α → α) (a : Nat) (t : α × α) : α × α := Prod.rec (motive := fun _ => α × α) (fun l r => (f a l, f (Nat.add a b) r)) t
/-- all cells but the model's are left unknown -/
noncomputable def zw_t : ze_T → ze_T := zw_s 512 (zw_s 256 (zw_s 128 (zw_s 64 (zw_s 32 (zw_s 16 (zw_s 8 (zw_s 4 (zw_s 2 (zw_s 1 zw_0))))))))) 0
/-- rows with names: address, head, length, first name -/
abbrev zr_R : Type := List (Nat × Nat × Nat × Nat)
def zr_nm (b : Nat) : List Nat := (List.range 13).map (fun i => 16 * (b + i) + 3)
def zr_T (rw : zr_R) (t : ze_T) : ze_T := zt_l t (rw.map fun q => (q.1, (q.2.1, q.2.2.1, zr (zr_nm q.2.2.2))))
def zr_cl (rw : zr_R) (t : ze_T) : ze_T := zt_l t (rw.map fun q => (q.1, (0, 0, 0)))
def zr_wl (rw : zr_R) (t : ze_T) : ze_T := zt_l t (rw.map fun q => (q.1, (10000, 0, 0)))
/-- an int's code, or an int's name -/
def zr_i (c : Nat) : Bool := match Nat.mod c 4 with
  | 0 => true
  | 3 => (match Nat.mod (Nat.div c 4) 4 with | 0 => true | _ => false)
  | _ => false
def zr_row (t : ze_T) (q : Nat × Nat × Nat × Nat) : Bool := Nat.beq (zt_g t q.1).1 q.2.1 && Nat.beq (zt_g t q.1).2.1 q.2.2.1 && Nat.blt (zt_g t q.1).2.2 (zp_D 13) && (List.range 13).all (fun i => zr_i (zp_g (zt_g t q.1).2.2 (zp_D i)))
/-- a word's names: 400 the number, 401 the next, 410.. its shifts, 430.. masked, 450.. letters, 470.. and 490.. their complements; 600 how far -/
def zr_b (mask : Int32) (ins : Instr) (x y : Value) : Option Value := match ins, x, y with
  | .ishr, .retAddr i, .int z => if i = 400 ∧ z.toUInt32.toNat < 12 then some (.retAddr (410 + z.toUInt32.toNat)) else none
  | .iand, .int z, .retAddr _ => if z = 0 then some (.int 0) else none
  | .iand, .retAddr i, .int z => if z = mask ∧ 410 ≤ i ∧ i < 422 then some (.retAddr (i + 20)) else none
  | .ixor, .retAddr i, .int z => if z = -1 ∧ ((430 ≤ i ∧ i < 442) ∨ (450 ≤ i ∧ i < 462)) then some (.retAddr (i + 40)) else none
  | .iadd, .retAddr i, .int z => if i = 400 ∧ z = 1 then some (.retAddr 401) else none
  | _, _, _ => none
def zr_E (mask : Int32) (b : zb_B) : ze_E := (fun _ _ => none, zr_b mask, zb_j b 0, fun _ _ => false, fun i => if i = 0 then none else (pt_look pt_OTL i).map ze_pkc)
/-- one cycle of the design, its input a bit with a name -/
noncomputable def zr_cy (k lv : Nat) (t : ze_T) (m : ze_M) : Option ((Option Nat ⊕ Nat) × ze_T × ze_M) := match Nat.beq k 459 with
  | false => none
  | true => (match zc_d (Nat.pred (zp_g lv (zp_D 2))) with
    | .retAddr i => (match ze zh_E0 3000 (fun _ _ => false) 100 459 zt_459 (zk_at zt_459 0) (zp_s lv (zp_D 2) 1) [] t m, ze zh_E0 3000 (fun _ _ => false) 100 459 zt_459 (zk_at zt_459 0) (zp_s lv (zp_D 2) 5) [] t m with
      | some (.inl (.inl (some r0), t0, m0)), some (.inl (.inl (some r1), t1, m1)) =>
        if (Nat.ble 430 i && Nat.blt i 442 && Nat.beq r0 0 && Nat.beq r1 252 && zh_m m0 m && zh_m m1 m && Nat.beq (zt_g t0 501).1 5 && Nat.beq (zt_g t0 501).2.1 70 && Nat.beq (zt_g t1 501).1 5 && Nat.beq (zt_g t1 501).2.1 70
          && Nat.beq (zp_g (zt_g t0 501).2.2 (zp_D 1)) 0 && Nat.beq (zt_g t1 501).2.2 (zp_s (zt_g t0 501).2.2 (zp_D 1) 4) && zq_t (zt_s t0 501 (0, 0, 0)) (zt_s t 501 (0, 0, 0)) && zq_t (zt_s t1 501 (0, 0, 0)) (zt_s t 501 (0, 0, 0))) = true
        then some (.inl (some (16 * (i + 20) + 3)), zt_s t 501 (5, 70, zp_s (zt_g t0 501).2.2 (zp_D 1) (16 * i + 3)), m) else none
      | _, _ => none)
    | _ => none)
def zs_LV (p t c4 : Nat) : Nat := zr [1847, 4 * p + 1, 9604, 4 * t + 1, c4]
section ZXR
variable (jm : Nat) (tb : zk_T) (S : zx_L) (mask : Int32) (pO pI : Nat) (rw : zr_R) (a1 : Nat)
noncomputable def zr_go (b : zb_B) (pc lv : Nat) (t : ze_T) : ze_R := zx (zr_E mask b) 100 S 20000 (fun pc _ => Nat.beq pc pO || Nat.beq pc pI) 500 jm tb (zk_at tb pc) lv [] t (538, 0, 0)
def zr_n5 (lv : Nat) : Nat := zp_s lv (zp_D 5) 0
def zr_n45 (lv : Nat) : Nat := zp_s (zp_s lv (zp_D 4) 0) (zp_D 5) 0
/-- the first word of a length, from what the shorter ones left -/
noncomputable def zr_1 (t : Nat) (B : ze_T) : ze_R := zr_go jm tb S mask pO pI [(600, 2147483648 + t, 2147483660)] pO (zs_LV a1 t 0) (zr_T rw B)
/-- does a run end here, with these locals, over these cells -/
noncomputable def zr_at (pc : Nat) (nrm : Nat → Nat) (lv : Nat) (B : ze_T) (r : ze_R) : Bool := match r with
  | some (.inr (pc2, lv2, st2, t2, m2)) => Nat.beq pc2 pc && Nat.beq (nrm lv2) lv && st2.isEmpty && zh_m m2 (538, 0, 0) && zq_t (zr_cl rw t2) B && rw.all (zr_row t2)
  | _ => false
noncomputable def zr_B (B0 : ze_T) (t : Nat) : ze_T := match zr_1 jm tb S mask pO pI rw a1 t B0 with
  | some (.inr (_, _, _, t2, _)) => zr_cl rw t2
  | _ => ze_N
/-- all of a length -/
noncomputable def zr_c (sh : Nat) (t : Nat) (Bp Bt : ze_T) : Bool :=
  zn_t Bt && zn_t Bp && zr_at rw pI zr_n5 (zs_LV a1 t 5) Bt (zr_1 jm tb S mask pO pI rw a1 t Bp)
  && zr_at rw pI zr_n5 (zs_LV a1 t 6420) Bt (zr_go jm tb S mask pO pI [(400, 2147483649, 2147483647 + 2 ^ (sh * t))] pI (zs_LV a1 t 6404) (zr_T rw Bt))
  && zr_at rw pO zr_n45 (zs_LV a1 (t + 1) 0) Bt (zr_go jm tb S mask pO pI [(400, 2147483648 + 2 ^ (sh * t), 2147483648 + 2 ^ (sh * t))] pI (zs_LV a1 t 6404) (zr_T rw Bt))
  && (match zr_go jm tb S mask pO pI [(600, 2147483648 + t, 2147483648 + t)] pO (zs_LV a1 (t + 1) 0) (zr_T rw Bt) with
    | some (.inl (.inl (some v), t2, m2)) => Nat.beq v 0 && zh_m m2 (538, 0, 0) && zq_t (zr_cl rw t2) Bt && rw.all (zr_row t2)
    | _ => false)
end ZXR
def zs_rw : zr_R := [(502, 1, 12, 700), (503, 1, 12, 720), (491, 1, 24, 740), (501, 5, 70, 760)]
/-- the model as search finds it, at its loop -/
noncomputable def zs_B0 (p : Nat) : ze_T := match z1_0 with
  | some (.inr (_, _, _, t, _)) => (match zq zh_E0 20000 (fun pc => Nat.beq pc 86) 400 (fun _ _ => false) 500 456 zt_456 (zk_at zt_456 0) (zr [1847, 4 * p + 1, 5]) [] (zt_s (zw_t t) 536 (3, 1, 1)) (538, 0, 0) with
    | some (.inr (_, _, _, t2, _)) => zr_cl zs_rw t2
    | _ => ze_N)
  | _ => ze_N
noncomputable def zs_B (p t : Nat) : ze_T := match t with
  | 0 => zs_B0 p
  | t + 1 => zr_B 456 zt_456 zr_cy 1 86 94 zs_rw p (zs_B0 p) (t + 1)
noncomputable def zs_c (p t : Nat) : Bool := zr_c 456 zt_456 zr_cy 1 86 94 zs_rw p 1 t (zs_B p (t - 1)) (zs_B p t)
