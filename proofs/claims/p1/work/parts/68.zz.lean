/-! ===== the model's search: what is known of a word's names, one cycle, a step ===== -/
def zr_sh (g : zy_G) (s : Nat) : Int32 := g.1 400 >>> (zk_i s &&& 31)
def zr_le (b : Int32) : Int32 := if b = 1 then 63 else 0
def zr_gn (mask : Int32) (g : zy_G) (n : Nat) : Int32 := if n = 401 then g.1 400 + 1 else (if 410 ≤ n ∧ n < 422 then zr_sh g (n - 410) else (if 430 ≤ n ∧ n < 442 then zr_sh g (n - 430) &&& mask else (if 450 ≤ n ∧ n < 462 then zr_le (zr_sh g (n - 450) &&& mask) else (if 470 ≤ n ∧ n < 482 then (zr_sh g (n - 470) &&& mask) ^^^ -1 else (if 490 ≤ n ∧ n < 502 then zr_le (zr_sh g (n - 490) &&& mask) ^^^ -1 else g.1 n)))))
def zr_g1 (mask : Int32) (g : zy_G) : zy_G := (zr_gn mask g, g.2.1, g.2.2)
section ZZA
variable {mask : Int32} {g : zy_G} {sc : pt_Sc}
theorem zr_g1_hi {n : Nat} (h : 502 ≤ n) : (zr_g1 mask g).1 n = g.1 n := by
  show zr_gn mask g n = _
  unfold zr_gn
  rw [if_neg (by omega), if_neg (by omega), if_neg (by omega), if_neg (by omega), if_neg (by omega), if_neg (by omega)]
theorem zr_g1_400 : (zr_g1 mask g).1 400 = g.1 400 := by
  show zr_gn mask g 400 = _
  unfold zr_gn
  rw [if_neg (by omega), if_neg (by omega), if_neg (by omega), if_neg (by omega), if_neg (by omega), if_neg (by omega)]
theorem zr_g1_401 : (zr_g1 mask g).1 401 = g.1 400 + 1 := by
  show zr_gn mask g 401 = _
  unfold zr_gn
  rw [if_pos rfl]
theorem zr_g1_sh {n : Nat} (h : 410 ≤ n ∧ n < 422) : (zr_g1 mask g).1 n = zr_sh g (n - 410) := by
  show zr_gn mask g n = _
  unfold zr_gn
  rw [if_neg (by omega), if_pos h]
theorem zr_g1_bt {n : Nat} (h : 430 ≤ n ∧ n < 442) : (zr_g1 mask g).1 n = zr_sh g (n - 430) &&& mask := by
  show zr_gn mask g n = _
  unfold zr_gn
  rw [if_neg (by omega), if_neg (by omega), if_pos h]
theorem zr_g1_lt {n : Nat} (h : 450 ≤ n ∧ n < 462) : (zr_g1 mask g).1 n = zr_le (zr_sh g (n - 450) &&& mask) := by
  show zr_gn mask g n = _
  unfold zr_gn
  rw [if_neg (by omega), if_neg (by omega), if_neg (by omega), if_pos h]
theorem zr_g1_cb {n : Nat} (h : 470 ≤ n ∧ n < 482) : (zr_g1 mask g).1 n = (zr_sh g (n - 470) &&& mask) ^^^ -1 := by
  show zr_gn mask g n = _
  unfold zr_gn
  rw [if_neg (by omega), if_neg (by omega), if_neg (by omega), if_neg (by omega), if_pos h]
theorem zr_g1_cl {n : Nat} (h : 490 ≤ n ∧ n < 502) : (zr_g1 mask g).1 n = zr_le (zr_sh g (n - 490) &&& mask) ^^^ -1 := by
  show zr_gn mask g n = _
  unfold zr_gn
  rw [if_neg (by omega), if_neg (by omega), if_neg (by omega), if_neg (by omega), if_neg (by omega), if_pos h]
theorem zr_b_ok {ins : Instr} {x y v : Value} (h : zr_b mask ins x y = some v) : zk_g ins = 1 ∧ ∀ r, pz_B ins (zy_v (zr_g1 mask g) y :: zy_v (zr_g1 mask g) x :: r) = some (zy_v (zr_g1 mask g) v :: r) := by
  unfold zr_b at h
  split at h
  · rename_i i z
    split at h
    · rename_i hc
      obtain ⟨rfl, hz⟩ := hc
      cases h
      refine ⟨rfl, fun r => ?_⟩
      show some (Value.int ((zr_g1 mask g).1 400 >>> (z &&& 31)) :: r) = some (.int ((zr_g1 mask g).1 (410 + z.toUInt32.toNat)) :: r)
      rw [zr_g1_400, zr_g1_sh (by omega), Nat.add_sub_cancel_left]
      unfold zr_sh
      rw [zk_i_eq]
    · cases h
  · rename_i z i
    split at h
    · rename_i hz
      subst hz
      cases h
      refine ⟨rfl, fun r => ?_⟩
      show some (Value.int (0 &&& (zr_g1 mask g).1 i) :: r) = some (.int 0 :: r)
      rw [Int32.zero_and]
    · cases h
  · rename_i i z
    split at h
    · rename_i hc
      obtain ⟨rfl, h1, h2⟩ := hc
      cases h
      refine ⟨rfl, fun r => ?_⟩
      show some (Value.int ((zr_g1 z g).1 i &&& z) :: r) = some (.int ((zr_g1 z g).1 (i + 20)) :: r)
      rw [zr_g1_sh ⟨h1, h2⟩, zr_g1_bt (by omega)]
      have : i + 20 - 430 = i - 410 := by omega
      rw [this]
    · cases h
  · rename_i i z
    split at h
    · rename_i hc
      obtain ⟨rfl, h1⟩ := hc
      cases h
      refine ⟨rfl, fun r => ?_⟩
      show some (Value.int ((zr_g1 mask g).1 i ^^^ -1) :: r) = some (.int ((zr_g1 mask g).1 (i + 40)) :: r)
      rcases h1 with h1 | h1
      · rw [zr_g1_bt h1, zr_g1_cb (by omega)]
        have : i + 40 - 470 = i - 430 := by omega
        rw [this]
      · rw [zr_g1_lt h1, zr_g1_cl (by omega)]
        have : i + 40 - 490 = i - 450 := by omega
        rw [this]
    · cases h
  · rename_i i z
    split at h
    · rename_i hc
      obtain ⟨rfl, rfl⟩ := hc
      cases h
      refine ⟨rfl, fun r => ?_⟩
      show some (Value.int ((zr_g1 mask g).1 400 + 1) :: r) = some (.int ((zr_g1 mask g).1 401) :: r)
      rw [zr_g1_400, zr_g1_401]
    · cases h
  · cases h
theorem zr_E_ok {b : zb_B} (hb : zb_in (zr_g1 mask g) b 0) : zE_ok sc (zr_g1 mask g) (zr_E mask b) :=
  ⟨fun _ _ _ h => (by cases h), fun _ _ _ _ h => zr_b_ok h, fun _ _ _ _ h => zb_j_ok hb h, fun _ _ h => (by cases h), zh_ot_ok⟩
theorem zb_in1 {g : zy_G} {n lo hi : Nat} (h1 : lo ≤ zb_o (g.1 n)) (h2 : zb_o (g.1 n) ≤ hi) : zb_in g [(n, lo, hi)] 0 := by
  refine ⟨?_, fun z => by omega, fun z => by omega, fun z => by omega, by omega⟩
  intro i
  have hlt := zb_o_lt (g.1 i)
  show (if n = i then (lo, hi) else (0, 4294967295)).1 ≤ _ ∧ _ ≤ (if n = i then (lo, hi) else (0, 4294967295)).2
  by_cases e0 : n = i
  · subst e0
    rw [if_pos rfl]
    exact ⟨h1, h2⟩
  · rw [if_neg e0]
    exact ⟨Nat.zero_le _, by show _ ≤ 4294967295; omega⟩
theorem zr_bit (y : Int32) : y &&& 1 = 0 ∨ y &&& 1 = 1 := by
  have h : ∀ x : BitVec 32, x &&& 1#32 = 0#32 ∨ x &&& 1#32 = 1#32 := by
    intro x
    have e : (x &&& 1#32).toNat = x.toNat % 2 := by
      rw [BitVec.toNat_and]
      show x.toNat &&& 1 = _
      rw [Nat.and_one_is_mod]
    have h2 : x.toNat % 2 = 0 ∨ x.toNat % 2 = 1 := by omega
    rcases h2 with z | z
    · left
      apply BitVec.eq_of_toNat_eq
      rw [e, z]
      rfl
    · right
      apply BitVec.eq_of_toNat_eq
      rw [e, z]
      rfl
  rcases h y.toBitVec with z | z
  · left
    exact Int32.toBitVec_inj.mp z
  · right
    exact Int32.toBitVec_inj.mp z
/-- the same names, other cells -/
theorem zR_sm {g : zy_G} {n : Nat} {t t' : ze_T} {w : List pz_C} (h : ∀ a, a < n → zt_g t a = zt_g t' a ∨ zSc g g (zt_g t a) (zt_g t' a)) (hw : zR_w g t n w) : zR_w g t' n w := by
  obtain ⟨h1, h2, h3⟩ := hw
  refine ⟨h1, h2, fun a c hc => ?_⟩
  have ha : a < n := by
    obtain ⟨z, -⟩ := List.getElem?_eq_some_iff.mp hc
    omega
  rcases h a ha with e | e
  · rw [← e]
    exact h3 a c hc
  · exact zSc_ok e (h3 a c hc)
theorem zSl_2 {g : zy_G} {lv c c' : Nat} (hb : c' + 1 < 4722366482869645213696) (h2 : zp_g lv (zp_D 2) = c + 1) (hv : zv g c = zv g c') (hct : zc_ct c = zc_ct c') (hc : c ≠ 15) (hc' : c' ≠ 15) : zSl g g lv (zp_s lv (zp_D 2) (c' + 1)) := by
  intro i e hi
  rw [zp_gs hb] at hi
  have hnx : zp_g (zp_s lv (zp_D 2) (c' + 1)) (zp_D (i + 1)) = 16 → zp_g lv (zp_D (i + 1)) = 16 := by
    rw [zp_gs hb]
    by_cases h : 2 = i + 1
    · rw [if_pos h]
      intro z
      omega
    · rw [if_neg h]
      exact id
  by_cases hi2 : 2 = i
  · subst hi2
    rw [if_pos rfl] at hi
    right
    have he : e = c' := by omega
    subst he
    exact ⟨c, h2, hc, hv, hct, hnx⟩
  · rw [if_neg hi2] at hi
    by_cases h15 : e = 15
    · exact Or.inl h15
    · exact Or.inr ⟨e, hi, h15, rfl, rfl, hnx⟩
end ZZA
theorem zr_vc {g : zy_G} {c : ze_C} {P0 i : Nat} (hi : 16 * i + 3 < 4722366482869645213696) (h1 : c.1 = 5) (h2 : c.2.1 = 70) (hP : ∀ j, zv g (zp_g c.2.2 (zp_D j)) = zv g (if 1 = j then 16 * i + 3 else zp_g P0 (zp_D j))) : zSc g g c (5, 70, zp_s P0 (zp_D 1) (16 * i + 3)) := by
  obtain ⟨c1, c2, c3⟩ := c
  dsimp only at *
  subst h1
  subst h2
  refine Or.inr (Or.inr ⟨rfl, rfl, Or.inr (Or.inl rfl), fun j => ?_⟩)
  dsimp only
  rw [zp_gs hi]
  exact hP j
theorem zP_459 : zP 459 = some zt_459 := rfl
theorem zr_cy_ok {sc : pt_Sc} {g : zy_G} (hG : zG (zr_g1 1 g)) (hsc : sc.2.2 = (zr_g1 1 g).2.2) : zx_ok sc (zr_g1 1 g) 100 zr_cy := by
  intro k lv t m x h Q hQ
  unfold zr_cy at h
  split at h
  · cases h
  · rename_i hk
    have ek : k = 459 := Nat.eq_of_beq_eq_true hk
    subst ek
    split at h
    · rename_i i hci
      split at h
      · rename_i r0 t0 m0 r1 t1 m1 hr0 hr1
        split at h
        · rename_i hc
          simp only [Bool.and_eq_true] at hc
          obtain ⟨⟨⟨⟨⟨⟨⟨⟨⟨⟨⟨⟨⟨a1, a2⟩, a3⟩, a4⟩, a5⟩, a6⟩, a7⟩, a8⟩, a9⟩, a10⟩, a11⟩, a12⟩, a13⟩, a14⟩ := hc
          have i1 : 430 ≤ i := Nat.le_of_ble_eq_true a1
          have i2 : i < 442 := Nat.blt_eq.mp a2
          have er0 : r0 = 0 := Nat.eq_of_beq_eq_true a3
          have er1 : r1 = 252 := Nat.eq_of_beq_eq_true a4
          have em0 := zh_m_ok a5
          have em1 := zh_m_ok a6
          have p0 : (zt_g t0 501).1 = 5 := Nat.eq_of_beq_eq_true a7
          have p1 : (zt_g t0 501).2.1 = 70 := Nat.eq_of_beq_eq_true a8
          have p2 : (zt_g t1 501).1 = 5 := Nat.eq_of_beq_eq_true a9
          have p3 : (zt_g t1 501).2.1 = 70 := Nat.eq_of_beq_eq_true a10
          have p4 : zp_g (zt_g t0 501).2.2 (zp_D 1) = 0 := Nat.eq_of_beq_eq_true a11
          have p5 := Nat.eq_of_beq_eq_true a12
          have q0 := zq_t_ok _ _ a13
          have q1 := zq_t_ok _ _ a14
          have ex := Option.some.inj h
          rw [← ex] at hQ
          subst er0
          subst er1
          subst em0
          have hslot : ∃ c, zp_g lv (zp_D 2) = c + 1 ∧ zc_d c = .retAddr i := by
            cases hs : zp_g lv (zp_D 2) with
            | zero =>
              rw [hs] at hci
              cases hci
            | succ c =>
              rw [hs] at hci
              exact ⟨c, rfl, hci⟩
          obtain ⟨c, hs, hcd⟩ := hslot
          have hv : zv (zr_g1 1 g) c = .int ((zr_g1 1 g).1 i) := by
            unfold zv
            rw [hcd]
            rfl
          have hct : zc_ct c = 1 := by rw [zc_ct_d, hcd]; rfl
          have hc15 : c ≠ 15 := by
            rintro rfl
            rw [zc_15] at hcd
            cases hcd
          have hoth0 : ∀ a, a < 1024 → a ≠ 501 → zt_g t0 a = zt_g t a := by
            intro a ha hne
            have e : zt_g (zt_s t0 501 (0, 0, 0)) a = zt_g (zt_s t 501 (0, 0, 0)) a := by rw [q0]
            rw [zt_gs _ _ _ _ (by decide) ha, zt_gs _ _ _ _ (by decide) ha, if_neg (fun z => hne z.symm), if_neg (fun z => hne z.symm)] at e
            exact e
          have hoth1 : ∀ a, a < 1024 → a ≠ 501 → zt_g t1 a = zt_g t a := by
            intro a ha hne
            have e : zt_g (zt_s t1 501 (0, 0, 0)) a = zt_g (zt_s t 501 (0, 0, 0)) a := by rw [q1]
            rw [zt_gs _ _ _ _ (by decide) ha, zt_gs _ _ _ _ (by decide) ha, if_neg (fun z => hne z.symm), if_neg (fun z => hne z.symm)] at e
            exact e
          have hib : 16 * i + 3 < 4722366482869645213696 := by omega
          have hbit := zr_bit (zr_sh g (i - 430))
          have hb0 : (zr_g1 1 g).1 i = zr_sh g (i - 430) &&& 1 := zr_g1_bt ⟨i1, i2⟩
          have hl0 : (zr_g1 1 g).1 (i + 20) = zr_le (zr_sh g (i - 430) &&& 1) := by
            rw [zr_g1_lt (by omega)]
            have : i + 20 - 450 = i - 430 := by omega
            rw [this]
          have hmn : ∀ {w' : List pz_C} {tt : ze_T} {mm : ze_M}, zR_w (zr_g1 1 g) tt mm.1 w' → mm.1 ≤ 1024 := fun hw => hw.2.1
          have hS : ∀ a, a < 1024 → zt_g (zt_s t 501 (5, 70, zp_s (zt_g t0 501).2.2 (zp_D 1) (16 * i + 3))) a = if 501 = a then (5, 70, zp_s (zt_g t0 501).2.2 (zp_D 1) (16 * i + 3)) else zt_g t a := fun a ha => zt_gs _ _ _ _ (by decide) ha
          generalize zt_s t 501 (5, 70, zp_s (zt_g t0 501).2.2 (zp_D 1) (16 * i + 3)) = tS at hQ hS
          generalize hc0 : zt_g t0 501 = c0 at *
          generalize hc1 : zt_g t1 501 = c1 at *
          rcases hbit with hbit | hbit
          · rw [hbit] at hb0 hl0
            intro l w hr hw
            refine ze_go hG hsc zh_E0_ok zP_459 hr0 ?_ l w (zSl_ok (zSl_2 (c' := 0) (by decide) hs (by rw [hv, hb0]; exact (zv_i 0).symm) hct hc15 (by decide)) hr) hw
            intro w' hw'
            have hz : (some 0).map (zv (zr_g1 1 g)) = some (.int 0) := congrArg some (zv_i 0)
            have hz2 : (some (16 * (i + 20) + 3)).map (zv (zr_g1 1 g)) = some (.int 0) := by
              show some (zv (zr_g1 1 g) (16 * (i + 20) + 3)) = _
              rw [zv_n, hl0]
              rfl
            rw [hz]
            have hq := hQ w' (zR_sm (t := t0) (fun a ha => ?_) hw')
            · rw [hz2] at hq
              exact hq
            · have ha2 : a < 1024 := by have := hw'.2.1; omega
              rw [hS a ha2]
              by_cases he : 501 = a
              · subst he
                rw [if_pos rfl, hc0]
                right
                refine zr_vc hib p0 p1 (fun j => ?_)
                by_cases hj : 1 = j
                · subst hj
                  rw [if_pos rfl, p4, zv_n, hb0]
                  exact zv_i 0
                · rw [if_neg hj]
              · rw [if_neg he]
                left
                exact hoth0 a ha2 (fun z => he z.symm)
          · rw [hbit] at hb0 hl0
            subst em1
            intro l w hr hw
            refine ze_go hG hsc zh_E0_ok zP_459 hr1 ?_ l w (zSl_ok (zSl_2 (c' := 4) (by decide) hs (by rw [hv, hb0]; exact (zv_i 1).symm) hct hc15 (by decide)) hr) hw
            intro w' hw'
            have hz : (some 252).map (zv (zr_g1 1 g)) = some (.int 63) := congrArg some (zv_i 63)
            have hz2 : (some (16 * (i + 20) + 3)).map (zv (zr_g1 1 g)) = some (.int 63) := by
              show some (zv (zr_g1 1 g) (16 * (i + 20) + 3)) = _
              rw [zv_n, hl0]
              rfl
            rw [hz]
            have hq := hQ w' (zR_sm (t := t1) (fun a ha => ?_) hw')
            · rw [hz2] at hq
              exact hq
            · have ha2 : a < 1024 := by have := hw'.2.1; omega
              rw [hS a ha2]
              by_cases he : 501 = a
              · subst he
                rw [if_pos rfl, hc1]
                right
                refine zr_vc hib p2 p3 (fun j => ?_)
                rw [p5, zp_gs (by decide)]
                by_cases hj : 1 = j
                · subst hj
                  rw [if_pos rfl, if_pos rfl, zv_n, hb0]
                  exact zv_i 1
                · rw [if_neg hj, if_neg hj]
              · rw [if_neg he]
                left
                exact hoth1 a ha2 (fun z => he z.symm)
        · cases h
      · cases h
    · cases h
