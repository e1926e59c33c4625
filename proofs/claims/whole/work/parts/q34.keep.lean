/-! ===== the start: what the two objects are ===== -/
/-- a cell's kind, its numbers, its long numbers, its references -/
def cx_T : Option pz_C → Option (Nat ⊕ (Nat × Nat))
  | some (.inl (k, n, _)) => some (.inr (k, n))
  | some (.inr (c, _)) => some (.inl c)
  | none => none
def cx_v : Option pz_C → Nat → Value
  | some (.inl (_, _, z)), k => pz_g z k
  | some (.inr (_, fs)), k => fs.getD k .null
  | none, _ => .null
def cx_I (c : Option pz_C) (k : Nat) : Int32 := pz_I (cx_v c k)
def cx_L (c : Option pz_C) (k : Nat) : Int64 := pz_L (cx_v c k)
def cx_R (c : Option pz_C) (k : Nat) : Option Nat := pz_R (cx_v c k)
def cx_s (s : Nat) : Value → Bool
  | .int _ => decide (s = 0)
  | .long _ => decide (s = 1)
  | .ref _ => decide (¬ s = 0 ∧ ¬ s = 1)
  | .null => decide (¬ s = 0 ∧ ¬ s = 1)
  | _ => false
/-- an object's values are of its fields' sorts -/
def cx_o : pz_C → Bool
  | .inl _ => true
  | .inr (c, fs) => (List.range (wv_nf c)).all fun k => match fs[k]? with | some v => cx_s (wv_ft c k) v | none => false
def st_n (x : Int32) (v : Nat) : Bool := Nat.beq x.toUInt32.toNat v
def st_l (x : Int64) (v : Nat) : Bool := Nat.beq x.toUInt64.toNat v
def st_r (x : Option Nat) (v : Nat) : Bool := match x with | some y => Nat.beq y v | none => false
def st_y (x : Option (Nat ⊕ (Nat × Nat))) (v : Nat ⊕ (Nat × Nat)) : Bool := match x, v with
  | some (.inl c), .inl d => Nat.beq c d
  | some (.inr (k, n)), .inr (l, m) => Nat.beq k l && Nat.beq n m
  | _, _ => false
def st_yk (x : Option (Nat ⊕ (Nat × Nat))) (v : Nat) : Bool := match x with
  | some (.inr (k, n)) => Nat.ble 4 k && Nat.beq n v
  | _ => false
def st_f (n : Nat) (p : Nat → Bool) : Bool := Nat.rec (motive := fun _ => Bool) true (fun m ih => p m && ih) n
section STP
variable (q : Nat → Option pz_C)
def st_pE (E : Nat) : Bool := st_y (cx_T (q E)) (.inl 9) && st_f 4 (fun k => st_r (cx_R (q E) k) (E + 1 + k)) && st_y (cx_T (q (E + 1))) (.inr (1, 66)) && st_f 3 (fun k => st_y (cx_T (q (E + 2 + k))) (.inr (0, 66))) && st_r (cx_R (q E) 4) 1099511627778 && st_n (cx_I (q E) 8) 0
def st_pC (C : Nat) : Bool := st_y (cx_T (q C)) (.inl 7) && st_f 8 (fun k => st_r (cx_R (q C) k) (C + 1 + k)) && st_y (cx_T (q (C + 1))) (.inr (0, 155)) && st_y (cx_T (q (C + 2))) (.inr (1, 155)) && st_y (cx_T (q (C + 3))) (.inr (1, 155)) && st_f 3 (fun k => st_y (cx_T (q (C + 4 + k))) (.inr (0, 155))) && st_yk (cx_T (q (C + 7))) 67 && st_yk (cx_T (q (C + 8))) 4 && st_f 67 (fun k => st_r (cx_R (q (C + 7)) k) (C + 9 + k) && st_y (cx_T (q (C + 9 + k))) (.inl 8) && st_r (cx_R (q (C + 9 + k)) 0) 1099511627777) && st_f 4 (fun k => st_r (cx_R (q (C + 8)) k) (C + 76 + 5 * k) && st_pE q (C + 76 + 5 * k)) && st_n (cx_I (q C) 8) 1 && st_n (cx_I (q C) 9) 0 && st_n (cx_I (q C) 10) 2 && st_n (cx_I (q (C + 1)) 0) 0 && st_n (cx_I (q (C + 4)) 0) 0 && st_n (cx_I (q (C + 5)) 0) 0 && st_l (cx_L (q (C + 2)) 0) 18446744073709551615 && st_l (cx_L (q (C + 3)) 0) 0
def st_pD (C : Nat) : Bool := st_y (cx_T (q C)) (.inl 10) && st_f 7 (fun k => st_r (cx_R (q C) k) (C + 1 + k)) && st_y (cx_T (q (C + 1))) (.inr (0, 60)) && st_y (cx_T (q (C + 2))) (.inr (0, 60)) && st_y (cx_T (q (C + 3))) (.inr (0, 5)) && st_y (cx_T (q (C + 4))) (.inr (2, 5)) && st_y (cx_T (q (C + 5))) (.inr (0, 6)) && st_y (cx_T (q (C + 6))) (.inr (0, 69)) && st_y (cx_T (q (C + 7))) (.inl 13) && st_n (cx_I (q C) 7) 0 && st_n (cx_I (q C) 8) 1 && st_n (cx_I (q C) 9) 0 && st_n (cx_I (q C) 10) 0 && st_f 6 (fun k => st_n (cx_I (q (C + 5)) k) 2) && st_n (cx_I (q (C + 6)) 0) 0 && st_r (cx_R (q (C + 7)) 0) (C + 8) && st_n (cx_I (q (C + 7)) 1) 0 && st_n (cx_I (q (C + 7)) 3) 0 && st_y (cx_T (q (C + 8))) (.inr (3, 16)) && st_f 16 (fun k => st_n (cx_I (q (C + 8)) k) 0)
def st_pH (H : Nat) : Bool := st_y (cx_T (q H)) (.inl 11) && st_f 7 (fun k => st_r (cx_R (q H) k) (H + 1 + k)) && st_f 3 (fun k => st_y (cx_T (q (H + 1 + k))) (.inr (0, 13))) && st_f 3 (fun k => st_y (cx_T (q (H + 4 + k))) (.inr (0, 12))) && st_y (cx_T (q (H + 7))) (.inr (0, 256)) && st_n (cx_I (q H) 8) 0
def st_pM : Bool := [(0, 16), (0, 17), (1, 6), (9, 11), (460, 2), (460, 46), (460, 57), (460, 58), (460, 65), (460, 66), (460, 70), (476, 800), (476, 4800), (477, 0), (477, 420), (478, 0), (478, 800), (482, 0), (482, 1), (345, 0), (345, 1), (490, 0), (490, 1)].all (fun p => st_n (cx_I (q p.1) p.2) 0) && [(460, 56), (476, 1600), (476, 5600), (480, 0), (480, 1), (481, 0), (481, 1)].all (fun p => st_n (cx_I (q p.1) p.2) 1) && [(476, 0), (476, 4000)].all (fun p => st_n (cx_I (q p.1) p.2) 60) && [(479, 0), (479, 1)].all (fun p => st_n (cx_I (q p.1) p.2) 12) && [(483, 0), (483, 1)].all (fun p => st_n (cx_I (q p.1) p.2) 4294967295) && st_f 6 (fun k => st_n (cx_I (q 500) k) 2)
def st_pR : Bool := [((27, 0), 28), ((27, 1), 124), ((0, 13), 346), ((0, 14), 442), ((0, 15), 451), ((342, 0), 343), ((342, 1), 344), ((325, 7), 1099511627779), ((333, 7), 1099511627779)].all (fun p => st_r (cx_R (q p.1.1) p.1.2) p.2) && st_y (cx_T (q 460)) (.inl 12) && st_y (cx_T (q 0)) (.inl 0) && st_y (cx_T (q 27)) (.inr (4, 2)) && st_y (cx_T (q 342)) (.inr (7, 2))
def st_pX : Bool := wm_ty.all (fun p => Nat.beq p.1 536 || st_y (cx_T (q p.1)) (.inr p.2)) && wm_L.all (fun p => st_y (cx_T (q p.2.1)) (.inl p.1) && p.2.2.all fun r => st_r (cx_R (q p.2.1) r.1) r.2)
end STP
/-- cells by their numbers, in heaps of 32 -/
def st_cs (w : List pz_C) : List (List pz_C) := (List.range 17).map fun i => (w.drop (32 * i)).take 32
def st_q (cs : List (List pz_C)) (r : Nat) : Option pz_C := match cs[r / 32]? with
  | some l => l[r % 32]?
  | none => none
def st_cq (q : Nat → Option pz_C) : Bool := [28, 124, 220, 346].all (fun C => st_pC q C) && [316, 442, 451].all (fun C => st_pD q C) && [325, 333].all (fun C => st_pH q C) && st_pM q && st_pR q && st_pX q
def st_ck (w : List pz_C) (c s : Nat) : Bool := Nat.beq w.length 536 && Nat.ble c 570 && Nat.ble s 425000 && w.all cx_o && st_cq (st_q (st_cs w))
theorem st_q_ok {w : List pz_C} {r : Nat} (hr : r < 536) : st_q (st_cs w) r = w[r]? := by
  have h : (st_cs w)[r / 32]? = some ((w.drop (32 * (r / 32))).take 32) := by
    unfold st_cs
    rw [List.getElem?_map, List.getElem?_range (by omega)]
    rfl
  unfold st_q
  rw [h]
  show ((w.drop (32 * (r / 32))).take 32)[r % 32]? = _
  rw [List.getElem?_take, if_pos (by omega), List.getElem?_drop, show 32 * (r / 32) + r % 32 = r by omega]
def st_k3 (r : zk_R) (c s : Nat) : Bool := match r with
  | some (.inl none, w3, c3, s3) => st_ck w3 (c + c3) (s + s3)
  | _ => false
theorem st_k3_ok {r : zk_R} {c s : Nat} (h : st_k3 r c s = true) : ∃ w3 c3 s3, r = some (.inl none, w3, c3, s3) ∧ st_ck w3 (c + c3) (s + s3) = true := by
  unfold st_k3 at h
  split at h
  · exact ⟨_, _, _, rfl, h⟩
  · cases h
noncomputable def st_f2 (w1 : List pz_C) : zk_R := st_c 342 [(0, .ref 460)] (w1 ++ [.inr (12, pt_fz 12)])
set_option maxRecDepth 1000000 in
theorem st_t : st_k3 (st_f2 st_wc) 459 21036 = true := by decide +kernel
