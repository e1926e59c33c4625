/-! ===== an expression, step by step: what stays the same ===== -/
section RSU
variable {ts : List wt_t} {n : Nat} {nm : ds_n} {A B : Nat} {x : ds_q} {r : dm_r} {fr : List dm_r}
theorem ds_not_no {o : Int32 × wt_q} (h : ¬ tk_now ts o.2 = (Int8.ofInt 6).toInt32) : ds_not ts 400 o = o := by
  show (if tk_now ts o.2 = (Int8.ofInt 6).toInt32 then ds_not ts 399 (o.1 ^^^ Int32.ofInt 1, tk_adv ts o.2) else o) = o
  rw [if_neg h]
theorem dm_rn_not (hl : ts.length ≤ 401) (ha : 1 ≤ x.1.1) (hk : tk_now ts x.1 = (Int8.ofInt 6).toInt32) (ht : dm_tn r) : dm_rn ts n nm A B x r fr = dm_rn ts n nm A B (tk_adv ts x.1, x.2) (r.1, r.2.1, r.2.2.1, r.2.2.2.1, r.2.2.2.2.1, (if r.2.2.2.2.2 = 0 then Int32.ofInt 1 else Int32.ofInt 0)) fr := by
  obtain ⟨h1, h2, h3⟩ := tk_now_adv (ts := ts) (s := x.1) (by rw [hk]; decide)
  have e1 : ds_not ts 400 (r.2.2.2.2.2, x.1) = ds_not ts 399 (r.2.2.2.2.2 ^^^ Int32.ofInt 1, tk_adv ts x.1) := by
    show (if tk_now ts x.1 = (Int8.ofInt 6).toInt32 then ds_not ts 399 (r.2.2.2.2.2 ^^^ Int32.ofInt 1, tk_adv ts x.1) else _) = _
    rw [if_pos hk]
  have e2 : r.2.2.2.2.2 ^^^ Int32.ofInt 1 = (if r.2.2.2.2.2 = 0 then Int32.ofInt 1 else Int32.ofInt 0) := by
    rcases ht with e | e <;> rw [e] <;> decide
  have e3 : ds_not ts 399 ((if r.2.2.2.2.2 = 0 then Int32.ofInt 1 else Int32.ofInt 0), tk_adv ts x.1) = ds_not ts 400 ((if r.2.2.2.2.2 = 0 then Int32.ofInt 1 else Int32.ofInt 0), tk_adv ts x.1) := ds_not_f 399 400 _ (by rw [h3]; show ts.length ≤ x.1.1 + 1 + 399; omega) (by rw [h3]; show ts.length ≤ x.1.1 + 1 + 400; omega)
  unfold dm_rn
  rw [e1, e2, e3]
  rfl
theorem dm_up_e (v : Nat) (a b c : Int32) (y : ds_q) : dm_up ts n nm A B v (Int32.ofInt (-1), a, b, Int32.ofInt (-1), c, Int32.ofInt 0) (ds_fc ts n nm A B v y) = ds_E ts n nm A B v y := by
  have hneg : Int32.ofInt (-1) < 0 := by decide
  rw [ds_E_eq]
  unfold dm_up dm_pp
  rw [if_pos (show (Int32.ofInt (-1), a, b, Int32.ofInt (-1), c, Int32.ofInt 0).2.2.2.1 < (0 : Int32) from hneg)]
  unfold dm_us dm_ss
  rw [if_pos (show (Int32.ofInt (-1), a, b, Int32.ofInt (-1), c, Int32.ofInt 0).1 < (0 : Int32) from hneg)]
  rfl
theorem dm_rn_open (hk : tk_now ts x.1 = (Int8.ofInt 15).toInt32) (hf : fr.length < 20) (a b c : Int32) : dm_rn ts n nm A B x r fr = dm_rn ts n nm A B (tk_adv ts x.1, x.2) (Int32.ofInt (-1), a, b, Int32.ofInt (-1), c, Int32.ofInt 0) (r :: fr) := by
  have e1 : ds_not ts 400 (r.2.2.2.2.2, x.1) = (r.2.2.2.2.2, x.1) := ds_not_no (by show ¬ tk_now ts x.1 = _; rw [hk]; decide)
  obtain ⟨v, hv⟩ : ∃ v, 20 - fr.length = v + 1 := ⟨20 - fr.length - 1, by omega⟩
  have hv2 : 20 - (r :: fr).length = v := by
    show 20 - (fr.length + 1) = v
    omega
  unfold dm_rn
  rw [e1, hv, hv2]
  show _ = dm_KE ts n nm A B (r :: fr) (dm_up ts n nm A B v (Int32.ofInt (-1), a, b, Int32.ofInt (-1), c, Int32.ofInt 0) (ds_fc ts n nm A B v (tk_adv ts x.1, x.2)))
  rw [dm_up_e]
  show _ = dm_KE ts n nm A B fr (dm_up ts n nm A B (20 - fr.length) r ((ds_E ts n nm A B v (tk_adv ts x.1, x.2)).1 ^^^ r.2.2.2.2.2, (tk_take ts n (Int8.ofInt 16).toInt32 (ds_E ts n nm A B v (tk_adv ts x.1, x.2)).2.1, (ds_E ts n nm A B v (tk_adv ts x.1, x.2)).2.2)))
  rw [hv]
  congr 2
  unfold ds_Fb
  rw [if_pos (show tk_now ts (r.2.2.2.2.2, x.1).2 = (Int8.ofInt 15).toInt32 from hk)]
  rfl
/-- the value of a factor that is no parenthesis -/
def dm_val (ts : List wt_t) (nm : ds_n) (s : wt_q) : Option Int32 := if tk_now ts s = Int32.ofInt 4 then some (Int32.ofInt 0) else if tk_now ts s = Int32.ofInt 5 then some (Int32.ofInt 1) else ds_nl ts nm s
theorem ds_Fb_val {o : Int32 × wt_q} {gs : ds_g} {inner : Option (ds_q → Int32 × ds_q)} {v : Int32} (hv : dm_val ts nm o.2 = some v) : ds_Fb ts n nm inner o gs = (v ^^^ o.1, (tk_adv ts o.2, gs)) := by
  unfold dm_val at hv
  unfold ds_Fb
  by_cases h4 : tk_now ts o.2 = Int32.ofInt 4
  · rw [if_pos h4] at hv
    cases hv
    rw [if_neg (by rw [h4]; decide)]
    have e : ds_nl ts nm o.2 = none := by unfold ds_nl; rw [if_neg (by rw [h4]; decide)]
    show (match ds_nl ts nm o.2 with | some y => (y ^^^ o.1, (tk_adv ts o.2, gs)) | none => if tk_now ts o.2 = Int32.ofInt 5 then (Int32.ofInt 1 ^^^ o.1, (tk_adv ts o.2, gs)) else (Int32.ofInt 0 ^^^ o.1, (tk_take ts n (Int32.ofInt 4) o.2, gs))) = _
    rw [e]
    show (if tk_now ts o.2 = Int32.ofInt 5 then (Int32.ofInt 1 ^^^ o.1, (tk_adv ts o.2, gs)) else (Int32.ofInt 0 ^^^ o.1, (tk_take ts n (Int32.ofInt 4) o.2, gs))) = _
    rw [if_neg (by rw [h4]; decide)]
    unfold tk_take
    rw [if_pos h4]
  · rw [if_neg h4] at hv
    by_cases h5 : tk_now ts o.2 = Int32.ofInt 5
    · rw [if_pos h5] at hv
      cases hv
      rw [if_neg (by rw [h5]; decide)]
      have e : ds_nl ts nm o.2 = none := by unfold ds_nl; rw [if_neg (by rw [h5]; decide)]
      show (match ds_nl ts nm o.2 with | some y => (y ^^^ o.1, (tk_adv ts o.2, gs)) | none => if tk_now ts o.2 = Int32.ofInt 5 then (Int32.ofInt 1 ^^^ o.1, (tk_adv ts o.2, gs)) else (Int32.ofInt 0 ^^^ o.1, (tk_take ts n (Int32.ofInt 4) o.2, gs))) = _
      rw [e]
      show (if tk_now ts o.2 = Int32.ofInt 5 then (Int32.ofInt 1 ^^^ o.1, (tk_adv ts o.2, gs)) else (Int32.ofInt 0 ^^^ o.1, (tk_take ts n (Int32.ofInt 4) o.2, gs))) = _
      rw [if_pos h5]
    · rw [if_neg h5] at hv
      have h15 : ¬ tk_now ts o.2 = (Int8.ofInt 15).toInt32 := by
        intro h
        unfold ds_nl at hv
        rw [if_neg (by rw [h]; decide)] at hv
        cases hv
      rw [if_neg h15]
      show (match ds_nl ts nm o.2 with | some y => (y ^^^ o.1, (tk_adv ts o.2, gs)) | none => if tk_now ts o.2 = Int32.ofInt 5 then (Int32.ofInt 1 ^^^ o.1, (tk_adv ts o.2, gs)) else (Int32.ofInt 0 ^^^ o.1, (tk_take ts n (Int32.ofInt 4) o.2, gs))) = _
      rw [hv]
theorem dm_val_6 {s : wt_q} {v : Int32} (hv : dm_val ts nm s = some v) : ¬ tk_now ts s = (Int8.ofInt 6).toInt32 := by
  intro h
  unfold dm_val ds_nl at hv
  rw [h, if_neg (by decide), if_neg (by decide), if_neg (by decide)] at hv
  cases hv
theorem dm_rn_val {v : Int32} (hv : dm_val ts nm x.1 = some v) : dm_rn ts n nm A B x r fr = dm_KE ts n nm A B fr (dm_us ts n nm A B (20 - fr.length) r (dm_pp A B r (v ^^^ r.2.2.2.2.2, (tk_adv ts x.1, x.2)))) := by
  have e1 : ds_not ts 400 (r.2.2.2.2.2, x.1) = (r.2.2.2.2.2, x.1) := ds_not_no (dm_val_6 hv)
  unfold dm_rn
  rw [e1, ds_Fb_val (o := (r.2.2.2.2.2, x.1)) hv]
  rfl
/-- no operand: a fault at the token's place -/
theorem dm_rn_bad (hn : x.1.2 = none) (h6 : ¬ tk_now ts x.1 = (Int8.ofInt 6).toInt32) (h15 : tk_now ts x.1 = (Int8.ofInt 15).toInt32 → 20 ≤ fr.length) (hv : dm_val ts nm x.1 = none) : (dm_rn ts n nm A B x r fr).2.1.2 = some (tk_place ts n x.1.1) := by
  have e1 : ds_not ts 400 (r.2.2.2.2.2, x.1) = (r.2.2.2.2.2, x.1) := ds_not_no h6
  unfold dm_rn
  rw [e1]
  apply dm_KE_some
  apply dm_up_some
  have e2 : (if tk_now ts (r.2.2.2.2.2, x.1).2 = (Int8.ofInt 15).toInt32 then ds_inn ts n nm A B (20 - fr.length) else none) = none := by
    by_cases hk : tk_now ts x.1 = (Int8.ofInt 15).toInt32
    · rw [if_pos (show tk_now ts (r.2.2.2.2.2, x.1).2 = _ from hk), show 20 - fr.length = 0 by have := h15 hk; omega]
      rfl
    · rw [if_neg (show ¬ tk_now ts (r.2.2.2.2.2, x.1).2 = _ from hk)]
  unfold dm_val at hv
  have h4 : ¬ tk_now ts x.1 = Int32.ofInt 4 := fun h => by rw [if_pos h] at hv; cases hv
  rw [if_neg h4] at hv
  have h5 : ¬ tk_now ts x.1 = Int32.ofInt 5 := fun h => by rw [if_pos h] at hv; cases hv
  rw [if_neg h5] at hv
  unfold ds_Fb
  rw [e2]
  show ((match ds_nl ts nm x.1 with | some y => (y ^^^ r.2.2.2.2.2, (tk_adv ts x.1, x.2)) | none => if tk_now ts x.1 = Int32.ofInt 5 then (Int32.ofInt 1 ^^^ r.2.2.2.2.2, (tk_adv ts x.1, x.2)) else (Int32.ofInt 0 ^^^ r.2.2.2.2.2, (tk_take ts n (Int32.ofInt 4) x.1, x.2))) : Int32 × ds_q).2.1.2 = _
  rw [hv]
  show (if tk_now ts x.1 = Int32.ofInt 5 then (Int32.ofInt 1 ^^^ r.2.2.2.2.2, (tk_adv ts x.1, x.2)) else (Int32.ofInt 0 ^^^ r.2.2.2.2.2, (tk_take ts n (Int32.ofInt 4) x.1, x.2))).2.1.2 = _
  rw [if_neg h5]
  show (tk_take ts n (Int32.ofInt 4) x.1).2 = _
  unfold tk_take
  rw [if_neg h4]
  unfold tk_ref tk_refAt
  rw [hn]
theorem dm_rs_and (hl : ts.length ≤ 401) (ha : 1 ≤ x.1.1) (hp : dm_ok (Int32.ofNat (tk_place ts n x.1.1))) (hpl : tk_place ts n x.1.1 ≤ 400) (hk : tk_now ts x.1 = (Int8.ofInt 7).toInt32) (hr : dm_vs r) : dm_rs ts n nm A B x r fr = dm_rn ts n nm A B (tk_adv ts x.1, x.2) (r.1, r.2.1, r.2.2.1, r.2.2.2.1, Int32.ofNat (tk_place ts n x.1.1), r.2.2.2.2.2) fr := by
  obtain ⟨h1, h2, h3⟩ := tk_now_adv (ts := ts) (s := x.1) (by rw [hk]; decide)
  have hm := ds_fc_mo (ts := ts) (n := n) (nm := nm) (A := A) (B := B) (20 - fr.length)
  have e0 : r.2.2.2.2.2 = Int32.ofInt 0 := hr.1
  have hnn := lp_nn hr.2.1
  have en : (Int32.ofNat (tk_place ts n x.1.1)).toNatClampNeg = tk_place ts n x.1.1 := wi_onn (by omega)
  have e1 : ds_PL ts n A B (ds_fc ts n nm A B (20 - fr.length)) 400 r.2.2.2.1 x = ds_PL ts n A B (ds_fc ts n nm A B (20 - fr.length)) 400 (ds_and A B (tk_place ts n x.1.1) r.2.2.2.1 (ds_fc ts n nm A B (20 - fr.length) (tk_adv ts x.1, x.2)).1 (ds_fc ts n nm A B (20 - fr.length) (tk_adv ts x.1, x.2)).2).1 (ds_and A B (tk_place ts n x.1.1) r.2.2.2.1 (ds_fc ts n nm A B (20 - fr.length) (tk_adv ts x.1, x.2)).1 (ds_fc ts n nm A B (20 - fr.length) (tk_adv ts x.1, x.2)).2).2 := by
    show (if tk_now ts x.1 = (Int8.ofInt 7).toInt32 then ds_PL ts n A B (ds_fc ts n nm A B (20 - fr.length)) 399 _ _ else _) = _
    rw [if_pos hk]
    have h4 := hm (tk_adv ts x.1, x.2)
    have h4 : (tk_adv ts x.1).1 ≤ (ds_fc ts n nm A B (20 - fr.length) (tk_adv ts x.1, x.2)).2.1.1 := h4
    have h5 : (tk_adv ts x.1).1 = x.1.1 + 1 := by rw [h3]
    exact ds_PL_f hm 399 400 _ _ (by rw [ds_gate_1.1]; omega) (by rw [ds_gate_1.1]; omega)
  unfold dm_rs dm_rn dm_up dm_pp
  rw [if_neg (show ¬ (r.1, r.2.1, r.2.2.1, r.2.2.2.1, Int32.ofNat (tk_place ts n x.1.1), r.2.2.2.2.2).2.2.2.1 < (0 : Int32) from hnn)]
  unfold dm_us
  show dm_KE ts n nm A B fr (ds_XL ts n A B (ds_pt ts n nm A B (20 - fr.length)) 400 (dm_ss A B r (ds_PL ts n A B (ds_fc ts n nm A B (20 - fr.length)) 400 r.2.2.2.1 x)).1 (dm_ss A B r (ds_PL ts n A B (ds_fc ts n nm A B (20 - fr.length)) 400 r.2.2.2.1 x)).2) = _
  rw [e1]
  show _ = dm_KE ts n nm A B fr (ds_XL ts n A B (ds_pt ts n nm A B (20 - fr.length)) 400 (dm_ss A B r (ds_PL ts n A B (ds_fc ts n nm A B (20 - fr.length)) 400 (ds_and A B (Int32.ofNat (tk_place ts n x.1.1)).toNatClampNeg r.2.2.2.1 (ds_Fb ts n nm (ds_inn ts n nm A B (20 - fr.length)) (ds_not ts 400 (r.2.2.2.2.2, tk_adv ts x.1)) x.2).1 (ds_Fb ts n nm (ds_inn ts n nm A B (20 - fr.length)) (ds_not ts 400 (r.2.2.2.2.2, tk_adv ts x.1)) x.2).2).1 (ds_and A B (Int32.ofNat (tk_place ts n x.1.1)).toNatClampNeg r.2.2.2.1 (ds_Fb ts n nm (ds_inn ts n nm A B (20 - fr.length)) (ds_not ts 400 (r.2.2.2.2.2, tk_adv ts x.1)) x.2).1 (ds_Fb ts n nm (ds_inn ts n nm A B (20 - fr.length)) (ds_not ts 400 (r.2.2.2.2.2, tk_adv ts x.1)) x.2).2).2)).1 (dm_ss A B r (ds_PL ts n A B (ds_fc ts n nm A B (20 - fr.length)) 400 (ds_and A B (Int32.ofNat (tk_place ts n x.1.1)).toNatClampNeg r.2.2.2.1 (ds_Fb ts n nm (ds_inn ts n nm A B (20 - fr.length)) (ds_not ts 400 (r.2.2.2.2.2, tk_adv ts x.1)) x.2).1 (ds_Fb ts n nm (ds_inn ts n nm A B (20 - fr.length)) (ds_not ts 400 (r.2.2.2.2.2, tk_adv ts x.1)) x.2).2).1 (ds_and A B (Int32.ofNat (tk_place ts n x.1.1)).toNatClampNeg r.2.2.2.1 (ds_Fb ts n nm (ds_inn ts n nm A B (20 - fr.length)) (ds_not ts 400 (r.2.2.2.2.2, tk_adv ts x.1)) x.2).1 (ds_Fb ts n nm (ds_inn ts n nm A B (20 - fr.length)) (ds_not ts 400 (r.2.2.2.2.2, tk_adv ts x.1)) x.2).2).2)).2)
  rw [en, e0]
  rfl
theorem dm_rs_ss (hk : ¬ tk_now ts x.1 = (Int8.ofInt 7).toInt32) : dm_rs ts n nm A B x r fr = dm_KE ts n nm A B fr (ds_XL ts n A B (ds_pt ts n nm A B (20 - fr.length)) 400 (dm_ss A B r (r.2.2.2.1, x)).1 (dm_ss A B r (r.2.2.2.1, x)).2) := by
  unfold dm_rs dm_us
  have e : ds_PL ts n A B (ds_fc ts n nm A B (20 - fr.length)) 400 (r.2.2.2.1, x).1 (r.2.2.2.1, x).2 = (r.2.2.2.1, x) := by
    show (if tk_now ts x.1 = (Int8.ofInt 7).toInt32 then _ else (r.2.2.2.1, x)) = _
    rw [if_neg hk]
  rw [e]
theorem dm_xl_sgn (hl : ts.length ≤ 401) (ha : 1 ≤ x.1.1) (hpl : tk_place ts n x.1.1 ≤ 400) (hk : tk_now ts x.1 = (Int8.ofInt 8).toInt32 ∨ tk_now ts x.1 = (Int8.ofInt 38).toInt32) {u c : Int32} (hu : ds_lp u) : dm_KE ts n nm A B fr (ds_XL ts n A B (ds_pt ts n nm A B (20 - fr.length)) 400 u x) = dm_rn ts n nm A B (tk_adv ts x.1, x.2) (u, ds_mc (tk_now ts x.1), Int32.ofNat (tk_place ts n x.1.1), Int32.ofInt (-1), c, Int32.ofInt 0) fr := by
  obtain ⟨h1, h2, h3⟩ := tk_now_adv (ts := ts) (s := x.1) (by rcases hk with hk | hk <;> rw [hk] <;> decide)
  have hm := ds_pt_mo (ts := ts) (n := n) (nm := nm) (A := A) (B := B) (20 - fr.length)
  have hnn := lp_nn hu
  have hneg : Int32.ofInt (-1) < 0 := by decide
  have en : (Int32.ofNat (tk_place ts n x.1.1)).toNatClampNeg = tk_place ts n x.1.1 := wi_onn (by omega)
  have esk : dm_sk (ds_mc (tk_now ts x.1)) = tk_now ts x.1 := by
    rcases hk with hk | hk <;> rw [hk] <;> decide
  have e1 : ds_XL ts n A B (ds_pt ts n nm A B (20 - fr.length)) 400 u x = ds_XL ts n A B (ds_pt ts n nm A B (20 - fr.length)) 400 (ds_XO A B (tk_now ts x.1) (tk_place ts n x.1.1) u (ds_pt ts n nm A B (20 - fr.length) (tk_adv ts x.1, x.2)).1 (ds_pt ts n nm A B (20 - fr.length) (tk_adv ts x.1, x.2)).2).1 (ds_XO A B (tk_now ts x.1) (tk_place ts n x.1.1) u (ds_pt ts n nm A B (20 - fr.length) (tk_adv ts x.1, x.2)).1 (ds_pt ts n nm A B (20 - fr.length) (tk_adv ts x.1, x.2)).2).2 := by
    show (if tk_now ts x.1 = (Int8.ofInt 8).toInt32 ∨ tk_now ts x.1 = (Int8.ofInt 38).toInt32 then ds_XL ts n A B (ds_pt ts n nm A B (20 - fr.length)) 399 _ _ else _) = _
    rw [if_pos hk]
    have h4 := hm (tk_adv ts x.1, x.2)
    have h4 : (tk_adv ts x.1).1 ≤ (ds_pt ts n nm A B (20 - fr.length) (tk_adv ts x.1, x.2)).2.1.1 := h4
    have h5 : (tk_adv ts x.1).1 = x.1.1 + 1 := by rw [h3]
    exact ds_XL_f hm 399 400 _ _ (by rw [ds_XO_1]; omega) (by rw [ds_XO_1]; omega)
  rw [e1]
  unfold dm_rn dm_up dm_pp
  rw [if_pos (show (u, ds_mc (tk_now ts x.1), Int32.ofNat (tk_place ts n x.1.1), Int32.ofInt (-1), c, Int32.ofInt 0).2.2.2.1 < (0 : Int32) from hneg)]
  unfold dm_us dm_ss
  rw [if_neg (show ¬ (u, ds_mc (tk_now ts x.1), Int32.ofNat (tk_place ts n x.1.1), Int32.ofInt (-1), c, Int32.ofInt 0).1 < (0 : Int32) from hnn)]
  show _ = dm_KE ts n nm A B fr (ds_XL ts n A B (ds_pt ts n nm A B (20 - fr.length)) 400 (ds_XO A B (dm_sk (ds_mc (tk_now ts x.1))) (Int32.ofNat (tk_place ts n x.1.1)).toNatClampNeg u (ds_pt ts n nm A B (20 - fr.length) (tk_adv ts x.1, x.2)).1 (ds_pt ts n nm A B (20 - fr.length) (tk_adv ts x.1, x.2)).2).1 (ds_XO A B (dm_sk (ds_mc (tk_now ts x.1))) (Int32.ofNat (tk_place ts n x.1.1)).toNatClampNeg u (ds_pt ts n nm A B (20 - fr.length) (tk_adv ts x.1, x.2)).1 (ds_pt ts n nm A B (20 - fr.length) (tk_adv ts x.1, x.2)).2).2)
  rw [en, esk]
theorem dm_xl_no {u : Int32} {v : Nat} (hk : ¬ (tk_now ts x.1 = (Int8.ofInt 8).toInt32 ∨ tk_now ts x.1 = (Int8.ofInt 38).toInt32)) : ds_XL ts n A B (ds_pt ts n nm A B v) 400 u x = (u, x) := by
  show (if tk_now ts x.1 = (Int8.ofInt 8).toInt32 ∨ tk_now ts x.1 = (Int8.ofInt 38).toInt32 then _ else (u, x)) = _
  rw [if_neg hk]
theorem dm_KE_cl {u : Int32} {f : dm_r} (hk : tk_now ts x.1 = (Int8.ofInt 16).toInt32) : dm_KE ts n nm A B (f :: fr) (u, x) = dm_KE ts n nm A B fr (dm_us ts n nm A B (20 - fr.length) f (dm_pp A B f (u ^^^ f.2.2.2.2.2, (tk_adv ts x.1, x.2)))) := by
  have e : tk_take ts n (Int8.ofInt 16).toInt32 x.1 = tk_adv ts x.1 := by unfold tk_take; rw [if_pos hk]
  show dm_KE ts n nm A B fr (dm_up ts n nm A B (20 - fr.length) f (u ^^^ f.2.2.2.2.2, (tk_take ts n (Int8.ofInt 16).toInt32 x.1, x.2))) = _
  rw [e]
  rfl
theorem dm_KE_ok {u : Int32} (hk : tk_now ts x.1 = (Int8.ofInt 9).toInt32) : dm_KE ts n nm A B [] (u, x) = (u, (tk_adv ts x.1, x.2)) := by
  have e : tk_take ts n (Int8.ofInt 9).toInt32 x.1 = tk_adv ts x.1 := by unfold tk_take; rw [if_pos hk]
  show (u, (tk_take ts n (Int8.ofInt 9).toInt32 x.1, x.2)) = _
  rw [e]
theorem dm_KE_bad {u : Int32} (hn : x.1.2 = none) (h1 : fr = [] → ¬ tk_now ts x.1 = (Int8.ofInt 9).toInt32) (h2 : ¬ fr = [] → ¬ tk_now ts x.1 = (Int8.ofInt 16).toInt32) : (dm_KE ts n nm A B fr (u, x)).2.1.2 = some (tk_place ts n x.1.1) := by
  have e : ∀ k, ¬ tk_now ts x.1 = k → (tk_take ts n k x.1).2 = some (tk_place ts n x.1.1) := fun k hk => by
    unfold tk_take
    rw [if_neg hk]
    unfold tk_ref tk_refAt
    rw [hn]
  cases hf : fr with
  | nil => exact e _ (h1 hf)
  | cons f fr2 =>
    show (dm_KE ts n nm A B fr2 (dm_up ts n nm A B (20 - fr2.length) f (u ^^^ f.2.2.2.2.2, (tk_take ts n (Int8.ofInt 16).toInt32 x.1, x.2)))).2.1.2 = _
    apply dm_KE_some
    apply dm_up_some
    exact e _ (h2 (by rw [hf]; exact fun w => by cases w))
end RSU
