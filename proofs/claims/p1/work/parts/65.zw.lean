/-! ===== the whole hunt ===== -/
theorem zh_E0_ok {sc : pt_Sc} {g : zy_G} : zE_ok sc g zh_E0 := ⟨fun _ _ _ h => (by cases h), fun _ _ _ _ h => (by cases h), fun _ _ _ _ h => (by cases h), fun _ _ h => (by cases h), zh_ot_ok⟩
theorem zh_it_0 (lv : Nat) (t : ze_T) (m : ze_M) : zh_it 0 lv t m = some (.inr (32, lv, [], t, m)) := rfl
theorem zh_it_s (n lv : Nat) (t : ze_T) (m : ze_M) : zh_it (n + 1) lv t m = zh_stp (zh_it n) lv t m := rfl
theorem zh_it_ok {sc : pt_Sc} {g : zy_G} (hG : zG g) (hsc : sc.2.2 = g.2.2) {Q : pz_O → Prop} {out : ze_O} (hz : zO sc g 500 322 Q out) (n : Nat) : ∀ (lv : Nat) (t : ze_T) (m : ze_M), zh_it n lv t m = some out → zZ sc g 500 322 32 lv [] t m Q := by
  induction n with
  | zero =>
    intro lv t m h
    rw [zh_it_0] at h
    have h2 := Option.some.inj h
    rw [← h2] at hz
    exact hz
  | succ n ih =>
    intro lv t m h
    rw [zh_it_s] at h
    unfold zh_stp at h
    split at h
    · rename_i pc lv2 st2 t2 m2 hrun
      obtain ⟨hb, h2⟩ := ze_b_some h
      rw [Bool.and_eq_true] at hb
      have e1 : pc = 32 := Nat.eq_of_beq_eq_true hb.1
      have e2 : st2 = [] := List.isEmpty_iff.mp hb.2
      refine ze_go hG hsc zh_E0_ok zP_322 hrun ?_
      show zZ sc g 500 322 pc lv2 st2 t2 m2 Q
      rw [e1, e2]
      exact ih lv2 t2 m2 h2
    · cases h
def zh_gi (g : zy_G) (c : Nat) : Int32 := pz_I (zv g c)
theorem zh_gi_ok {g : zy_G} {c : Nat} (h : Nat.mod c 4 = 0) : zv g c = .int (zh_gi g c) := by
  unfold zh_gi
  rw [zc_i0 h]
  rfl
theorem zh_names {sc : pt_Sc} {g : zy_G} (hG : zG g) (hsc : sc.2.2 = g.2.2) {Q : pz_O → Prop} {k c lv : Nat} {t : ze_T} {m : ze_M} {aT aL : Nat} (h : zh_all k c lv t m aT aL = true) (hQ : zO sc g 500 322 Q (.inl (.inl (some 0), zh_W t aT aL, m))) : zZ sc g 500 322 32 lv [] t m Q := by
  unfold zh_all at h
  simp only [Bool.and_eq_true, List.all_eq_true, List.mem_range, Bool.not_eq_true'] at h
  obtain ⟨⟨⟨⟨⟨⟨⟨⟨⟨⟨⟨⟨⟨⟨⟨⟨⟨⟨⟨⟨⟨⟨⟨⟨⟨a1, a2⟩, a3⟩, a4⟩, a5⟩, a6⟩, a7⟩, a8⟩, a9⟩, a10⟩, a11⟩, a12⟩, a13⟩, a14⟩, a15⟩, a16⟩, a17⟩, a18⟩, a19⟩, a20⟩, a21⟩, a22⟩, a23⟩, a24⟩, a25⟩, a26⟩ := h
  have k1 : 1 ≤ k := Nat.le_of_ble_eq_true a1
  have k2 : k ≤ 12 := Nat.le_of_ble_eq_true a2
  have c1 : 1 ≤ c := Nat.le_of_ble_eq_true a3
  have c2 : c ≤ 8 := Nat.le_of_ble_eq_true a4
  have hTm := Nat.blt_eq.mp a5
  have hLm := Nat.blt_eq.mp a6
  have hm : m.1 ≤ 1024 := Nat.le_of_ble_eq_true a7
  have hT : aT < 1024 := by omega
  have hL : aL < 1024 := by omega
  have hTL : aT ≠ aL := by
    rintro rfl
    rw [Nat.beq_refl] at a8
    cases a8
  have t1 : (zt_g t aT).1 = 1 := Nat.eq_of_beq_eq_true a11
  have t2 : (zt_g t aT).2.1 = 13 := Nat.eq_of_beq_eq_true a12
  have t3 := Nat.blt_eq.mp a13
  have l1 : (zt_g t aL).1 = 1 := Nat.eq_of_beq_eq_true a14
  have l2 : (zt_g t aL).2.1 = 13 := Nat.eq_of_beq_eq_true a15
  have l3 := Nat.blt_eq.mp a16
  have e7 : zp_g lv (zp_D 7) = 4 * (k - 1) + 1 := Nat.eq_of_beq_eq_true a20
  have e8 : Nat.mod (zp_g lv (zp_D 8)) 4 = 1 := Nat.eq_of_beq_eq_true a21
  have e8b : zp_g lv (zp_D 8) ≤ 1000 := Nat.le_of_ble_eq_true a22
  obtain ⟨u, hu⟩ : ∃ u, zp_g lv (zp_D 8) = 4 * u + 1 := ⟨zp_g lv (zp_D 8) / 4, by have : zp_g lv (zp_D 8) % 4 = 1 := e8; omega⟩
  have hz0 : ∀ {P : Nat}, P < zp_D 13 → ∀ i, 13 ≤ i → zp_g P (zp_D i) = 0 := by
    intro P hP i hi
    show P / zp_D i % _ = 0
    obtain ⟨f, rfl⟩ : ∃ f, i = 13 + f := ⟨i - 13, by omega⟩
    have hp := zp_Dp f
    have h3 : zp_D 13 * 1 ≤ zp_D 13 * zp_D f := Nat.mul_le_mul_left _ hp
    rw [Nat.mul_one] at h3
    rw [zp_Da, Nat.div_eq_of_lt (Nat.lt_of_lt_of_le hP h3)]
  have hs1 : ∀ i, i < 13 → Nat.mod (zp_g (zt_g t aT).2.2 (zp_D i)) 4 = 0 := fun i hi => Nat.eq_of_beq_eq_true (a17 i hi).1
  have hs2 : ∀ i, i < 13 → Nat.mod (zp_g (zt_g t aL).2.2 (zp_D i)) 4 = 0 := fun i hi => Nat.eq_of_beq_eq_true (a17 i hi).2
  -- the names' values at first
  refine zGEN (g' := (fun n => if n = 200 then zk_i u else (if n < 223 then zh_gi g (zp_g (zt_g t aT).2.2 (zp_D (n - 210))) else zh_gi g (zp_g (zt_g t aL).2.2 (zp_D (n - 230)))), g.2.1, g.2.2)) (lv' := zh_lv lv (k - 1) 3203) (t' := zh_T t aT aL zh_l1 zh_l2) ?_ ?_ ?_
  · refine zSl_8 (c := 4 * u) (c' := 3203) hu ?_ ?_ ?_ ?_ ?_ (by omega) (by decide)
    · rw [zh_lv_g (by omega) (by decide), if_pos rfl]
    · intro i hi
      have h8 : ¬ 8 = i := fun z => hi z.symm
      rw [zh_lv_g (by omega) (by decide), if_neg h8]
      by_cases h7 : 7 = i
      · subst h7
        rw [if_pos rfl, e7]
      · rw [if_neg h7]
    · intro i e _ he
      exact zh_nl_ok a10 i e he
    · rw [zv_i, show (3203 : Nat) = 16 * 200 + 3 from rfl, zv_n]
      rfl
    · have : zc_ct (4 * u) = 1 := by
        unfold zc_ct
        have h0 : Nat.mod (4 * u) 4 = 0 := by show (4 * u) % 4 = 0; omega
        rw [h0]
        rfl
      rw [this]
      rfl
  · intro a ha
    rw [zh_T_g hT hL (by omega)]
    by_cases ea : aT = a
    · subst ea
      rw [if_pos rfl]
      refine Or.inr (Or.inr ⟨t1, t2, Or.inl t1, fun i => ?_⟩)
      dsimp only
      rw [zr_g _ zh_b1, zh_l1_g]
      by_cases hi : i < 13
      · rw [if_pos hi, zv_n, zh_gi_ok (hs1 i hi)]
        show _ = Value.int (if 210 + i = 200 then _ else (if 210 + i < 223 then zh_gi g (zp_g (zt_g t aT).2.2 (zp_D (210 + i - 210))) else _))
        rw [if_neg (by omega), if_pos (by omega), Nat.add_sub_cancel_left]
      · rw [if_neg hi, hz0 t3 i (by omega)]
        exact zv_nl (by decide)
    · rw [if_neg ea]
      by_cases eb : aL = a
      · subst eb
        rw [if_pos rfl]
        refine Or.inr (Or.inr ⟨l1, l2, Or.inl l1, fun i => ?_⟩)
        dsimp only
        rw [zr_g _ zh_b2, zh_l2_g]
        by_cases hi : i < 13
        · rw [if_pos hi, zv_n, zh_gi_ok (hs2 i hi)]
          show _ = Value.int (if 230 + i = 200 then _ else (if 230 + i < 223 then _ else zh_gi g (zp_g (zt_g t aL).2.2 (zp_D (230 + i - 230)))))
          rw [if_neg (by omega), if_neg (by omega), Nat.add_sub_cancel_left]
        · rw [if_neg hi, hz0 l3 i (by omega)]
          exact zv_nl (by decide)
      · rw [if_neg eb]
        exact Or.inr (Or.inl ⟨rfl, zn_t_ok a9 a⟩)
  · have hrem := zh_rem (P := zh_P sc Q lv t m aT aL) (k := k) (c := c) k1 c1 (fun e he => Nat.le_of_ble_eq_true (a23 e (by omega)))
      (fun d x τ u hd hx hu hτ hP => zh_try_ok hm hT hL a9 a10 (by omega) (by omega) (a24 d hd x hx) hu hτ hP)
      (fun d x τ u hd hx hu hτ hτ2 hP => zh_pop_ok hm hT hL a9 a10 k2 c2 hd hx (a25 d hd x hx) hu hτ hτ2 hP)
      (fun τ u hu hτ => zh_exit_ok hm hT hL a9 a10 c2 a26 hu hτ (fun w' hw => by
        obtain ⟨g2, hw2, hs2⟩ := hw
        refine hQ w' ?_
        refine zSm_ok (g := g2) (t := zh_W t aT aL) ?_ hw2
        intro a ha
        rw [zh_W_g hT hL (by omega)]
        by_cases ea : aT = a
        · rw [if_pos ea]
          exact Or.inl rfl
        · rw [if_neg ea]
          by_cases eb : aL = a
          · rw [if_pos eb]
            exact Or.inl rfl
          · rw [if_neg eb]
            exact Or.inr (Or.inl ⟨rfl, zn_t_ok a9 a⟩)))
      (k - 1) (by omega) 0 (fun i => if i = k - 1 then c else 0) u (by omega) (by show (if k - 1 = k - 1 then c else 0) + 0 = c; rw [if_pos rfl]; rfl) (fun i hi => if_neg (by omega)) (by have : (k - 1 + 1) * 60000 ≤ 12 * 60000 := Nat.mul_le_mul_right _ (by omega); omega)
    refine hrem _ hG hsc (by dsimp only; rw [if_pos rfl]) ?_
    intro i hi
    show (if 210 + i = 200 then _ else (if 210 + i < 223 then zh_gi g (zp_g (zt_g t aT).2.2 (zp_D (210 + i - 210))) else _)) = zk_i (if i = k - 1 then c else 0)
    rw [if_neg (by omega), if_pos (by omega), Nat.add_sub_cancel_left]
    by_cases h1 : i = k - 1
    · subst h1
      rw [if_pos rfl, Nat.eq_of_beq_eq_true a19]
      unfold zh_gi
      rw [zv_i]
      rfl
    · rw [if_neg h1, Nat.eq_of_beq_eq_true (a18 i (by omega))]
      unfold zh_gi
      rw [show (0 : Nat) = 4 * 0 from rfl, zv_i]
      rfl
theorem zh_seek_ok {sc : pt_Sc} {g : zy_G} (hG : zG g) (hsc : sc.2.2 = g.2.2) {lv : Nat} {t : ze_T} {m : ze_M} {x : (Option Nat ⊕ Nat) × ze_T × ze_M} (h : zh_seek lv t m = some x) {Q : pz_O → Prop} (hQ : zO sc g 500 322 Q (.inl x)) : zZ sc g 500 322 0 lv [] t m Q := by
  unfold zh_seek at h
  split at h
  · rename_i pc0 lv0 st0 t0 m0 h0
    split at h
    · rename_i pc1 lv1 st1 t1 m1 h1
      split at h
      · rename_i h2
        rw [Bool.and_eq_true, Bool.and_eq_true, Bool.and_eq_true, Bool.and_eq_true] at h2
        obtain ⟨⟨⟨⟨d1, d2⟩, d3⟩, d4⟩, d5⟩ := h2
        have e1 : pc0 = 32 := Nat.eq_of_beq_eq_true d1
        have e2 : st0 = [] := List.isEmpty_iff.mp d2
        have e3 : pc1 = 32 := Nat.eq_of_beq_eq_true d3
        have e4 : st1 = [] := List.isEmpty_iff.mp d4
        have e5 := Option.some.inj h
        refine zq_go hG hsc zh_E0_ok zP_322 h0 ?_
        show zZ sc g 500 322 pc0 lv0 st0 t0 m0 Q
        rw [e1, e2]
        refine zh_it_ok hG hsc ?_ _ _ _ _ h1
        show zZ sc g 500 322 pc1 lv1 st1 t1 m1 Q
        rw [e3, e4]
        refine zh_names hG hsc d5 ?_
        rw [← e5] at hQ
        exact hQ
      · cases h
    · cases h
  · cases h
