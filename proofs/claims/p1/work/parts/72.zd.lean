/-! ===== search and differ: calls taken from what has been counted ===== -/
def zs_okp (p K : Nat) : Bool := Nat.ble p 1 && Nat.ble 1 K && Nat.ble K 12
def zd_okp (n K : Nat) : Bool := Nat.ble 1 n && Nat.ble n 3 && Nat.ble 1 K && Nat.ble (n * K) 12
noncomputable def z5_S (k lv : Nat) (t : ze_T) (m : ze_M) : Option ((Option Nat ⊕ Nat) × ze_T × ze_M) := ze_b (Nat.beq k 322) (zh_seek lv t m) (ze_b (Nat.beq k 456) (zc_S 456 zt_456 86 zs_rw zs_okp zs_B lv t m) (ze_b (Nat.beq k 463) (zc_S 463 zt_463 77 zd_rw zd_okp zd_B lv t m) none))
noncomputable def z5_chk (op : Int32) (b : zb_B) : Bool := match z1_0 with
  | some (.inr (pc, lv, st, t, m)) => z1_end (zx (zb_E op b 0) 500 z5_S 20000 (fun _ _ => false) 590 0 zt_0 (zk_at zt_0 pc) lv st t m)
  | _ => false
def z5_b (p K : Nat) : zb_B := [(1, p + 2147483648, p + 2147483648), (2, K + 2147483648, K + 2147483648)]
