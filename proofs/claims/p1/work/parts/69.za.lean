/-! ===== the model's search: the loops ===== -/
theorem zr_n5_ok {lv lv' : Nat} (h : zr_n5 lv = lv') : ∀ i, i ≠ 5 → zp_g lv (zp_D i) = zp_g lv' (zp_D i) := by
  intro i hi
  rw [← h]
  unfold zr_n5
  rw [zp_gs (by decide), if_neg (fun z => hi z.symm)]
theorem zr_n45_ok {lv lv' : Nat} (h : zr_n45 lv = lv') : ∀ i, i ≠ 4 → i ≠ 5 → zp_g lv (zp_D i) = zp_g lv' (zp_D i) := by
  intro i hi4 hi5
  rw [← h]
  unfold zr_n45
  rw [zp_gs (by decide), zp_gs (by decide), if_neg (fun z => hi5 z.symm), if_neg (fun z => hi4 z.symm)]
theorem zs_LV_o {a t c : Nat} (ha : a < 100) (ht : t < 100) (hc : c < 10000) {i : Nat} (hi : i ≠ 4) : zp_g (zs_LV a t c) (zp_D i) = zp_g (zs_LV a t 0) (zp_D i) := by
  rw [zs_LV_g ha ht hc, zs_LV_g ha ht (by decide)]
  rcases i with _ | _ | _ | _ | _ | i
  · rfl
  · rfl
  · rfl
  · rfl
  · exact absurd rfl hi
  · rfl
section ZAA
variable {jm : Nat} {tb : zk_T} {S : zx_L} {mask : Int32} {pO pI : Nat} {rw : zr_R} {a1 sh : Nat} {sc : pt_Sc} {Q : pz_O → Prop}
theorem zr_st {g : zy_G} {b : zb_B} {pc t c4 : Nat} {B : ze_T} {out : ze_O} (hp : zP jm = some tb) (hrw : zr_ok rw = true) (ha1 : a1 < 100) (hS : zx_ok sc (zr_g1 mask g) 100 S) (hG : zG g) (hsc : sc.2.2 = g.2.2) (hB : zn_t B = true) (ht : t < 100) (hc4 : c4 = 0 ∨ c4 = 6404) (hb : zb_in (zr_g1 mask g) b 0) (hrun : zr_go jm tb S mask pO pI b pc (zs_LV a1 t c4) (zr_T rw B) = some out) (hO : zO sc (zr_g1 mask g) 500 jm Q out) : zZ sc g 500 jm pc (zs_LV a1 t c4) [] (zr_T rw B) (538, 0, 0) Q := by
  refine zGEN (g' := zr_g1 mask g) (lv' := zs_LV a1 t c4) (t' := zr_T rw B) ?_ (zr_Sn hrw hB (fun n hn => (zr_g1_hi (by omega)).symm)) (zx_go (g := zr_g1 mask g) hG hsc (zr_E_ok hb) hS hp hrun hO)
  refine zs_Sl ha1 ht (by omega) (fun i h4 h5 => zs_LV_o ha1 ht (by omega) h4) (zr_g1_hi (by decide)).symm ?_
  rcases hc4 with z | z
  · exact Or.inl z
  · right
    subst z
    refine ⟨6403, 6403, ?_, rfl, ?_, rfl, by decide, by decide⟩
    · rw [zs_LV_g ha1 ht (by decide)]
      rfl
    · rw [show (6403 : Nat) = 16 * 400 + 3 from rfl, zv_n, zv_n, zr_g1_400]
/-- the loops' heads -/
def zr_PI (jm pI : Nat) (rw : zr_R) (a1 : Nat) (sc : pt_Sc) (Q : pz_O → Prop) (Bf : Nat → ze_T) (K t v : Nat) : Prop := ∀ g, zG g → sc.2.2 = g.2.2 → g.1 600 = zk_i K → g.1 400 = zk_i v → zZ sc g 500 jm pI (zs_LV a1 t 6404) [] (zr_T rw (Bf t)) (538, 0, 0) Q
def zr_PO (jm pO : Nat) (rw : zr_R) (a1 : Nat) (sc : pt_Sc) (Q : pz_O → Prop) (Bf : Nat → ze_T) (K t : Nat) : Prop := ∀ g, zG g → sc.2.2 = g.2.2 → g.1 600 = zk_i K → zZ sc g 500 jm pO (zs_LV a1 t 0) [] (zr_T rw (Bf (t - 1))) (538, 0, 0) Q
variable {Bf : Nat → ze_T} {K t : Nat}
theorem zr_first (hp : zP jm = some tb) (hrw : zr_ok rw = true) (ha1 : a1 < 100) (hS : ∀ g, zG (zr_g1 mask g) → sc.2.2 = (zr_g1 mask g).2.2 → zx_ok sc (zr_g1 mask g) 100 S) (hK : K ≤ 12) (ht : t ≤ K) (hc : zr_c jm tb S mask pO pI rw a1 sh t (Bf (t - 1)) (Bf t) = true) (h : zr_PI jm pI rw a1 sc Q Bf K t 1) : zr_PO jm pO rw a1 sc Q Bf K t := by
  intro g hG hsc h600
  unfold zr_c at hc
  simp only [Bool.and_eq_true] at hc
  obtain ⟨⟨⟨⟨⟨n1, n2⟩, c1⟩, -⟩, -⟩, -⟩ := hc
  unfold zr_at at c1
  split at c1
  · rename_i pc2 lv2 st2 t2 m2 hrun
    simp only [Bool.and_eq_true] at c1
    obtain ⟨⟨⟨⟨⟨d1, d2⟩, d3⟩, d4⟩, d5⟩, d6⟩ := c1
    have e1 : pc2 = pI := Nat.eq_of_beq_eq_true d1
    have e2 := zr_n5_ok (Nat.eq_of_beq_eq_true d2)
    have e3 : st2 = [] := List.isEmpty_iff.mp d3
    have e4 := zh_m_ok d4
    subst e1
    subst e3
    subst e4
    have h6 : (zr_g1 mask g).1 600 = zk_i K := (zr_g1_hi (by decide)).trans h600
    refine zr_st (t := t) (c4 := 0) hp hrw ha1 (hS g hG hsc) hG hsc n2 (by omega) (Or.inl rfl) (zb_in1 (by rw [h6, zk_i_o (by omega)]; omega) (by rw [h6, zk_i_o (by omega)]; omega)) hrun ?_
    show zZ sc (zr_g1 mask g) 500 jm _ lv2 [] t2 (538, 0, 0) Q
    refine zGEN (g' := zr_g2 rw (zr_g1 mask g) t2 (zk_i 1)) (lv' := zs_LV a1 t 6404) (t' := zr_T rw (Bf t)) ?_ (zr_Sm hrw n1 d5 d6) ?_
    · refine zs_Sl ha1 (by omega) (by decide) (fun i h4 h5 => ?_) ?_ ?_
      · rw [e2 i h5, zs_LV_o ha1 (by omega) (by decide) h4]
      · rw [zr_g2_o hrw (by decide), if_neg (by decide)]
      · right
        refine ⟨4, 6403, ?_, rfl, ?_, rfl, by decide, by decide⟩
        · rw [e2 4 (by decide), zs_LV_g ha1 (by omega) (by decide)]
          rfl
        · rw [show (6403 : Nat) = 16 * 400 + 3 from rfl, zv_n, zr_g2_o hrw (by decide), if_pos rfl]
          exact zv_i 1
    · exact h _ hG hsc (by rw [zr_g2_o hrw (by decide), if_neg (by decide)]; exact h6) (by rw [zr_g2_o hrw (by decide), if_pos rfl])
  · cases c1
theorem zr_loop (hp : zP jm = some tb) (hrw : zr_ok rw = true) (ha1 : a1 < 100) (hS : ∀ g, zG (zr_g1 mask g) → sc.2.2 = (zr_g1 mask g).2.2 → zx_ok sc (zr_g1 mask g) 100 S) (ht : t < 100) (hsh : 2 ^ (sh * t) ≤ 4096) (hc : zr_c jm tb S mask pO pI rw a1 sh t (Bf (t - 1)) (Bf t) = true) {v : Nat} (hv1 : 1 ≤ v) (hv2 : v < 2 ^ (sh * t)) (h : zr_PI jm pI rw a1 sc Q Bf K t (v + 1)) : zr_PI jm pI rw a1 sc Q Bf K t v := by
  intro g hG hsc h600 h400
  unfold zr_c at hc
  simp only [Bool.and_eq_true] at hc
  obtain ⟨⟨⟨⟨⟨n1, n2⟩, -⟩, c1⟩, -⟩, -⟩ := hc
  generalize 2 ^ (sh * t) = M at *
  unfold zr_at at c1
  split at c1
  · rename_i pc2 lv2 st2 t2 m2 hrun
    simp only [Bool.and_eq_true] at c1
    obtain ⟨⟨⟨⟨⟨d1, d2⟩, d3⟩, d4⟩, d5⟩, d6⟩ := c1
    have e1 : pc2 = pI := Nat.eq_of_beq_eq_true d1
    have e2 := zr_n5_ok (Nat.eq_of_beq_eq_true d2)
    have e3 : st2 = [] := List.isEmpty_iff.mp d3
    have e4 := zh_m_ok d4
    subst e1
    subst e3
    subst e4
    have h6 : (zr_g1 mask g).1 600 = zk_i K := (zr_g1_hi (by decide)).trans h600
    have h4 : (zr_g1 mask g).1 400 = zk_i v := zr_g1_400.trans h400
    refine zr_st (t := t) (c4 := 6404) hp hrw ha1 (hS g hG hsc) hG hsc n1 ht (Or.inr rfl) (zb_in1 (by rw [h4, zk_i_o (by omega)]; omega) (by rw [h4, zk_i_o (by omega)]; omega)) hrun ?_
    show zZ sc (zr_g1 mask g) 500 jm _ lv2 [] t2 (538, 0, 0) Q
    refine zGEN (g' := zr_g2 rw (zr_g1 mask g) t2 (zk_i (v + 1))) (lv' := zs_LV a1 t 6404) (t' := zr_T rw (Bf t)) ?_ (zr_Sm hrw n1 d5 d6) ?_
    · refine zs_Sl ha1 ht (by decide) (fun i h4 h5 => ?_) ?_ ?_
      · rw [e2 i h5, zs_LV_o ha1 ht (by decide) h4]
      · rw [zr_g2_o hrw (by decide), if_neg (by decide)]
      · right
        refine ⟨6419, 6403, ?_, rfl, ?_, rfl, by decide, by decide⟩
        · rw [e2 4 (by decide), zs_LV_g ha1 ht (by decide)]
          rfl
        · rw [show (6419 : Nat) = 16 * 401 + 3 from rfl, show (6403 : Nat) = 16 * 400 + 3 from rfl, zv_n, zv_n, zr_g2_o hrw (by decide), if_pos rfl, zr_g1_401, h400, zk_i_s (by omega)]
    · exact h _ hG hsc (by rw [zr_g2_o hrw (by decide), if_neg (by decide)]; exact h6) (by rw [zr_g2_o hrw (by decide), if_pos rfl])
  · cases c1
theorem zr_exit (hp : zP jm = some tb) (hrw : zr_ok rw = true) (ha1 : a1 < 100) (hS : ∀ g, zG (zr_g1 mask g) → sc.2.2 = (zr_g1 mask g).2.2 → zx_ok sc (zr_g1 mask g) 100 S) (ht : t < 99) (hsh : 2 ^ (sh * t) ≤ 4096) (hc : zr_c jm tb S mask pO pI rw a1 sh t (Bf (t - 1)) (Bf t) = true) (h : zr_PO jm pO rw a1 sc Q Bf K (t + 1)) : zr_PI jm pI rw a1 sc Q Bf K t (2 ^ (sh * t)) := by
  intro g hG hsc h600 h400
  unfold zr_c at hc
  simp only [Bool.and_eq_true] at hc
  obtain ⟨⟨⟨⟨⟨n1, n2⟩, -⟩, -⟩, c1⟩, -⟩ := hc
  generalize 2 ^ (sh * t) = M at *
  unfold zr_at at c1
  split at c1
  · rename_i pc2 lv2 st2 t2 m2 hrun
    simp only [Bool.and_eq_true] at c1
    obtain ⟨⟨⟨⟨⟨d1, d2⟩, d3⟩, d4⟩, d5⟩, d6⟩ := c1
    have e1 : pc2 = pO := Nat.eq_of_beq_eq_true d1
    have e2 := zr_n45_ok (Nat.eq_of_beq_eq_true d2)
    have e3 : st2 = [] := List.isEmpty_iff.mp d3
    have e4 := zh_m_ok d4
    subst e1
    subst e3
    subst e4
    have h6 : (zr_g1 mask g).1 600 = zk_i K := (zr_g1_hi (by decide)).trans h600
    have h4 : (zr_g1 mask g).1 400 = zk_i M := zr_g1_400.trans h400
    refine zr_st (t := t) (c4 := 6404) hp hrw ha1 (hS g hG hsc) hG hsc n1 (by omega) (Or.inr rfl) (zb_in1 (by rw [h4, zk_i_o (by omega)]; omega) (by rw [h4, zk_i_o (by omega)]; omega)) hrun ?_
    show zZ sc (zr_g1 mask g) 500 jm _ lv2 [] t2 (538, 0, 0) Q
    refine zGEN (g' := zr_g2 rw (zr_g1 mask g) t2 (zk_i 0)) (lv' := zs_LV a1 (t + 1) 0) (t' := zr_T rw (Bf t)) ?_ (zr_Sm hrw n1 d5 d6) ?_
    · refine zs_Sl ha1 (by omega) (by decide) (fun i h4 h5 => e2 i h4 h5) ?_ (Or.inl rfl)
      rw [zr_g2_o hrw (by decide), if_neg (by decide)]
    · have h2 := h (zr_g2 rw (zr_g1 mask g) t2 (zk_i 0)) hG hsc (by rw [zr_g2_o hrw (by decide), if_neg (by decide)]; exact h6)
      rw [Nat.add_sub_cancel] at h2
      exact h2
  · cases c1
theorem zr_end (hp : zP jm = some tb) (hrw : zr_ok rw = true) (ha1 : a1 < 100) (hS : ∀ g, zG (zr_g1 mask g) → sc.2.2 = (zr_g1 mask g).2.2 → zx_ok sc (zr_g1 mask g) 100 S) (hK : K < 90) (hc : zr_c jm tb S mask pO pI rw a1 sh K (Bf (K - 1)) (Bf K) = true) (h : ∀ w', (∃ g : zy_G, zR_w g (zr_wl rw (Bf K)) 538 w' ∧ sc.2.2 = g.2.2) → Q (.inl (some (.int 0)), w', 0, 0)) : zr_PO jm pO rw a1 sc Q Bf K (K + 1) := by
  intro g hG hsc h600
  unfold zr_c at hc
  simp only [Bool.and_eq_true] at hc
  obtain ⟨⟨⟨⟨⟨n1, n2⟩, -⟩, -⟩, -⟩, c1⟩ := hc
  split at c1
  · rename_i v t2 m2 hrun
    simp only [Bool.and_eq_true] at c1
    obtain ⟨⟨⟨d1, d2⟩, d3⟩, d4⟩ := c1
    have e1 : v = 0 := Nat.eq_of_beq_eq_true d1
    have e4 := zh_m_ok d2
    subst e1
    subst e4
    have h6 : (zr_g1 mask g).1 600 = zk_i K := (zr_g1_hi (by decide)).trans h600
    rw [Nat.add_sub_cancel]
    refine zr_st (t := K + 1) (c4 := 0) hp hrw ha1 (hS g hG hsc) hG hsc n1 (by omega) (Or.inl rfl) (zb_in1 (by rw [h6, zk_i_o (by omega)]; omega) (by rw [h6, zk_i_o (by omega)]; omega)) hrun ?_
    intro w' hw'
    have hz : (some 0).map (zv (zr_g1 mask g)) = some (.int 0) := congrArg some (zv_i 0)
    rw [hz]
    exact h w' ⟨zr_g1 mask g, zSm_ok (zr_Sw hrw n1 d3) hw', hsc⟩
  · cases c1
/-- all lengths up to K -/
theorem zr_all (hp : zP jm = some tb) (hrw : zr_ok rw = true) (ha1 : a1 < 100) (hS : ∀ g, zG (zr_g1 mask g) → sc.2.2 = (zr_g1 mask g).2.2 → zx_ok sc (zr_g1 mask g) 100 S) (hK1 : 1 ≤ K) (hK : K ≤ 12) (hsh : ∀ t, t ≤ K → 2 ^ (sh * t) ≤ 4096) (hsh1 : 1 ≤ sh) (hc : ∀ t, 1 ≤ t → t ≤ K → zr_c jm tb S mask pO pI rw a1 sh t (Bf (t - 1)) (Bf t) = true) (h : ∀ w', (∃ g : zy_G, zR_w g (zr_wl rw (Bf K)) 538 w' ∧ sc.2.2 = g.2.2) → Q (.inl (some (.int 0)), w', 0, 0)) : zr_PO jm pO rw a1 sc Q Bf K 1 := by
  have key : ∀ e, e ≤ K → zr_PO jm pO rw a1 sc Q Bf K (K + 1 - e) := by
    intro e
    induction e with
    | zero =>
      intro _
      exact zr_end hp hrw ha1 hS (by omega) (hc K hK1 (Nat.le_refl _)) h
    | succ e ih =>
      intro he
      have hn := ih (by omega)
      have e1 : K + 1 - e = (K + 1 - (e + 1)) + 1 := by omega
      rw [e1] at hn
      have htc := hc (K + 1 - (e + 1)) (by omega) (by omega)
      have hts := hsh (K + 1 - (e + 1)) (by omega)
      have ht2 : K + 1 - (e + 1) ≤ K := by omega
      generalize K + 1 - (e + 1) = t at *
      have hin : ∀ f, f + 1 ≤ 2 ^ (sh * t) → zr_PI jm pI rw a1 sc Q Bf K t (2 ^ (sh * t) - f) := by
        intro f
        induction f with
        | zero =>
          intro _
          exact zr_exit hp hrw ha1 hS (by omega) hts htc hn
        | succ f ihf =>
          intro hf
          have h1 := ihf (by omega)
          have e2 : 2 ^ (sh * t) - f = (2 ^ (sh * t) - (f + 1)) + 1 := by omega
          rw [e2] at h1
          exact zr_loop hp hrw ha1 hS (by omega) hts htc (by omega) (by omega) h1
      have hpos : 0 < 2 ^ (sh * t) := Nat.pow_pos (by decide)
      have h1 := hin (2 ^ (sh * t) - 1) (by omega)
      have e3 : 2 ^ (sh * t) - (2 ^ (sh * t) - 1) = 1 := by omega
      rw [e3] at h1
      exact zr_first hp hrw ha1 hS hK ht2 htc h1
  have := key K (Nat.le_refl _)
  have e4 : K + 1 - K = 1 := by omega
  rw [e4] at this
  exact this
end ZAA
