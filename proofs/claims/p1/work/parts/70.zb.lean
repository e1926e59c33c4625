/-! ===== the model's search and differ, as wholes ===== -/
theorem zw_step {α : Type} {k : Nat} {gd : α → Nat → ze_C} {f : Nat → α → α} (h : ∀ base t a, gd (f base t) a = if zr_keep (base + a % 2 ^ k) = true then gd t a else (10000, 0, 0)) : ∀ base t a, zt_gd (2 ^ k) gd (zw_s (2 ^ k) f base t) a = if zr_keep (base + a % 2 ^ (k + 1)) = true then zt_gd (2 ^ k) gd t a else (10000, 0, 0) := by
  intro base t a
  obtain ⟨l, r⟩ := t
  show (if Nat.land a (2 ^ k) = 0 then gd (f base l) a else gd (f (base + 2 ^ k) r) a) = if zr_keep (base + a % 2 ^ (k + 1)) = true then (if Nat.land a (2 ^ k) = 0 then gd l a else gd r a) else (10000, 0, 0)
  by_cases hb : Nat.land a (2 ^ k) = 0
  · rw [if_pos hb, if_pos hb, h]
    have e : a % 2 ^ (k + 1) = a % 2 ^ k := by
      have hb2 := (zt_bit a k).mp hb
      rw [Nat.testBit_eq_decide_div_mod_eq, decide_eq_false_iff_not] at hb2
      have h2 : a / 2 ^ k % 2 = 0 := by omega
      rw [Nat.mod_pow_succ, h2, Nat.mul_zero, Nat.add_zero]
    rw [e]
  · rw [if_neg hb, if_neg hb, h]
    have hb2 : a.testBit k = true := by
      cases hq : a.testBit k with
      | true => rfl
      | false => exact absurd ((zt_bit a k).mpr hq) hb
    have e : a % 2 ^ (k + 1) = 2 ^ k + a % 2 ^ k := by
      rw [Nat.testBit_eq_decide_div_mod_eq, decide_eq_true_eq] at hb2
      rw [Nat.mod_pow_succ, hb2, Nat.mul_one, Nat.add_comm]
    rw [e, Nat.add_assoc]
theorem zw_t_g (t : ze_T) {a : Nat} (ha : a < 1024) : zt_g (zw_t t) a = if zr_keep a = true then zt_g t a else (10000, 0, 0) := by
  have h0 : ∀ (base : Nat) (c : ze_C) (a : Nat), (fun (c : ze_C) (_ : Nat) => c) (zw_0 base c) a = if zr_keep (base + a % 2 ^ 0) = true then (fun (c : ze_C) (_ : Nat) => c) c a else (10000, 0, 0) := by
    intro base c a
    show zw_0 base c = if zr_keep (base + a % 1) = true then c else (10000, 0, 0)
    rw [Nat.mod_one, Nat.add_zero]
    unfold zw_0
    cases zr_keep base <;> rfl
  have h := zw_step (zw_step (zw_step (zw_step (zw_step (zw_step (zw_step (zw_step (zw_step (zw_step (k := 0) (gd := fun c _ => c) (f := zw_0) h0))))))))) 0 t a
  have e : 0 + a % 2 ^ (0 + 1 + 1 + 1 + 1 + 1 + 1 + 1 + 1 + 1 + 1) = a := by
    rw [Nat.zero_add]
    exact Nat.mod_eq_of_lt ha
  rw [e] at h
  exact h
section ZCA
variable {rw : zr_R} {g g' : zy_G}
theorem zr_Sm2 {t2 B : ze_T} (h : zr_ok rw = true) (hB : zn_t B = true) (hc : zq_t (zr_cl rw t2) B = true) (hr : rw.all (zr_row t2) = true) (hg : ∀ a x, pt_look rw a = some x → ∀ i, i < 13 → g'.1 (x.2.2 + i) = zh_gi g (zp_g (zt_g t2 a).2.2 (zp_D i))) : zSm g g' 538 t2 (zr_T rw B) := by
  have e := zq_t_ok _ _ hc
  intro a ha
  have e1 : zt_g (zr_T rw B) a = ((pt_look rw a).map (fun x : Nat × Nat × Nat => ((x.1, x.2.1, zr (zr_nm x.2.2)) : ze_C))).getD (zt_g B a) := zr_l_g h (fun x => (x.1, x.2.1, zr (zr_nm x.2.2))) B (by omega)
  have e2 : zt_g (zr_cl rw t2) a = ((pt_look rw a).map (fun _ : Nat × Nat × Nat => ((0, 0, 0) : ze_C))).getD (zt_g t2 a) := zr_l_g h (fun _ => (0, 0, 0)) t2 (by omega)
  rw [e1]
  cases hl : pt_look rw a with
  | none =>
    rw [hl] at e2
    rw [e] at e2
    show zSc g _ (zt_g t2 a) (zt_g B a)
    have e3 : zt_g B a = zt_g t2 a := e2
    rw [e3]
    refine Or.inr (Or.inl ⟨rfl, ?_⟩)
    rw [← e3]
    exact zn_t_ok hB a
  | some x =>
    have hm := zr_look_mem hl
    obtain ⟨q1, q2, q3, q4, q5, q6⟩ := zr_ok_q h hm
    obtain ⟨f1, f2, f3, r4⟩ := zr_row_ok (List.all_eq_true.mp hr _ hm)
    exact zr_Sc q2 q4 f1 f2 f3 r4 (hg a x hl)
theorem zr_Sw2 {B : ze_T} (h : zr_ok rw = true) (hB : zn_t B = true) : zSm g g' 538 (zr_wl rw B) (zr_wl rw B) := by
  intro a ha
  have e1 : zt_g (zr_wl rw B) a = ((pt_look rw a).map (fun _ : Nat × Nat × Nat => ((10000, 0, 0) : ze_C))).getD (zt_g B a) := zr_l_g h (fun _ => (10000, 0, 0)) B (by omega)
  rw [e1]
  cases hl : pt_look rw a with
  | none => exact Or.inr (Or.inl ⟨rfl, zn_t_ok hB a⟩)
  | some x => exact Or.inl rfl
theorem zs_Sl0 {p K : Nat} (hp : p < 100) (hK : K < 100) (h6 : g'.1 600 = zk_i K) : zSl g g' (zr [1847, 4 * p + 1, 4 * K + 1, 5]) (zs_LV p 1 0) := by
  have hz : ∀ i, zp_g (zr [1847, 4 * p + 1, 4 * K + 1, 5]) (zp_D i) = [1847, 4 * p + 1, 4 * K + 1, 5].getD i 0 := by
    intro i
    apply zr_g
    simp only [List.all_cons, List.all_nil, Bool.and_true, Bool.and_eq_true]
    exact ⟨by decide, Nat.blt_eq.mpr (by omega), Nat.blt_eq.mpr (by omega), by decide⟩
  intro i e hi
  rw [zs_LV_g hp (by decide) (by decide)] at hi
  have hnx : zp_g (zs_LV p 1 0) (zp_D (i + 1)) ≠ 16 := by
    rw [zs_LV_g hp (by decide) (by decide)]
    rcases i with _ | _ | _ | _ | i
    · show 4 * p + 1 ≠ 16
      omega
    · show 9604 ≠ 16
      decide
    · show 4 * 1 + 1 ≠ 16
      decide
    · show 0 ≠ 16
      decide
    · show (0 : Nat) ≠ 16
      decide
  rcases i with _ | _ | _ | _ | _ | i
  · right
    have he : e = 1846 := by
      have : 1847 = e + 1 := hi
      omega
    subst he
    exact ⟨1846, by rw [hz]; rfl, by decide, zv_nl (by decide), rfl, fun z => absurd z hnx⟩
  · right
    have he : e = 4 * p := by
      have : 4 * p + 1 = e + 1 := hi
      omega
    subst he
    exact ⟨4 * p, by rw [hz]; rfl, by omega, zv_nl (by show (4 * p) % 4 ≠ 3; omega), rfl, fun z => absurd z hnx⟩
  · right
    have he : e = 9603 := by
      have : 9604 = e + 1 := hi
      omega
    subst he
    refine ⟨4 * K, by rw [hz]; rfl, by omega, ?_, ?_, fun z => absurd z hnx⟩
    · rw [show (9603 : Nat) = 16 * 600 + 3 from rfl, zv_n, zv_i, h6]
    · have h0 : zc_ct (4 * K) = 1 := by
        unfold zc_ct
        have h0 : Nat.mod (4 * K) 4 = 0 := by show (4 * K) % 4 = 0; omega
        rw [h0]
        rfl
      rw [h0]
      rfl
  · right
    have he : e = 4 := by
      have : 4 * 1 + 1 = e + 1 := hi
      omega
    subst he
    exact ⟨4, by rw [hz]; rfl, by decide, zv_nl (by decide), rfl, fun z => absurd z hnx⟩
  · exfalso
    have : (0 : Nat) = e + 1 := hi
    omega
  · exfalso
    have : (0 : Nat) = e + 1 := hi
    omega
end ZCA
/-- a call of the model that looks through words: from its entry, by what has been counted -/
noncomputable def zc_S (jm : Nat) (tb : zk_T) (pO : Nat) (rw : zr_R) (okp : Nat → Nat → Bool) (B : Nat → Nat → ze_T) (lv : Nat) (t : ze_T) (m : ze_M) : Option ((Option Nat ⊕ Nat) × ze_T × ze_M) := match zq zh_E0 20000 (fun pc => Nat.beq pc pO) 400 (fun _ _ => false) 500 jm tb (zk_at tb 0) lv [] t m with
  | some (.inr (pc, lv1, st1, t1, m1)) =>
    if (Nat.beq pc pO && st1.isEmpty && zh_m m1 (538, 0, 0) && okp (Nat.div (zp_g lv1 (zp_D 1)) 4) (Nat.div (zp_g lv1 (zp_D 2)) 4) && Nat.beq lv1 (zr [1847, 4 * (Nat.div (zp_g lv1 (zp_D 1)) 4) + 1, 4 * (Nat.div (zp_g lv1 (zp_D 2)) 4) + 1, 5]) && zq_t (zr_cl rw (zw_t t1)) (B (Nat.div (zp_g lv1 (zp_D 1)) 4) 0) && rw.all (zr_row (zw_t t1))) = true
    then some (.inl (some 0), zr_wl rw (B (Nat.div (zp_g lv1 (zp_D 1)) 4) (Nat.div (zp_g lv1 (zp_D 2)) 4)), (538, 0, 0)) else none
  | _ => none
theorem zc_S_ok {jm : Nat} {tb : zk_T} {S : zx_L} {mask : Nat → Int32} {pO pI : Nat} {rw : zr_R} {shf : Nat → Nat} {okp : Nat → Nat → Bool} {B : Nat → Nat → ze_T} {sc : pt_Sc} {g : zy_G} (hp : zP jm = some tb) (hrw : zr_ok rw = true) (hS : ∀ p K g, okp p K = true → zG (zr_g1 (mask p) g) → sc.2.2 = (zr_g1 (mask p) g).2.2 → zx_ok sc (zr_g1 (mask p) g) 100 S)
    (hok : ∀ p K, okp p K = true → p < 100 ∧ 1 ≤ K ∧ K ≤ 12 ∧ 1 ≤ shf p ∧ (∀ t, t ≤ K → 2 ^ (shf p * t) ≤ 4096) ∧ ∀ t, 1 ≤ t → t ≤ K → zr_c jm tb S (mask p) pO pI rw p (shf p) t (B p (t - 1)) (B p t) = true)
    (hG : zG g) (hsc : sc.2.2 = g.2.2) {lv : Nat} {t : ze_T} {m : ze_M} {x : (Option Nat ⊕ Nat) × ze_T × ze_M} (h : zc_S jm tb pO rw okp B lv t m = some x) {Q : pz_O → Prop} (hQ : zO sc g 500 jm Q (.inl x)) : zZ sc g 500 jm 0 lv [] t m Q := by
  unfold zc_S at h
  split at h
  · rename_i pc lv1 st1 t1 m1 h0
    split at h
    · rename_i hc
      simp only [Bool.and_eq_true] at hc
      obtain ⟨⟨⟨⟨⟨⟨d1, d2⟩, d3⟩, d4⟩, d5⟩, d6⟩, d7⟩ := hc
      have ex := Option.some.inj h
      rw [← ex] at hQ
      generalize Nat.div (zp_g lv1 (zp_D 1)) 4 = p at *
      generalize Nat.div (zp_g lv1 (zp_D 2)) 4 = K at *
      have e1 : pc = pO := Nat.eq_of_beq_eq_true d1
      have e2 : st1 = [] := List.isEmpty_iff.mp d2
      have e3 := zh_m_ok d3
      have e4 := Nat.eq_of_beq_eq_true d5
      obtain ⟨k1, k2, k3, k4, k5, k6⟩ := hok p K d4
      have hnB : ∀ t, 1 ≤ t → t ≤ K → zn_t (B p t) = true ∧ zn_t (B p (t - 1)) = true := by
        intro t ht1 ht2
        have := k6 t ht1 ht2
        unfold zr_c at this
        simp only [Bool.and_eq_true] at this
        exact ⟨this.1.1.1.1.1, this.1.1.1.1.2⟩
      have hn0 : zn_t (B p 0) = true := (hnB 1 (Nat.le_refl _) k2).2
      have hnK : zn_t (B p K) = true := (hnB K k2 (Nat.le_refl _)).1
      subst e1
      subst e2
      subst e3
      refine zq_go hG hsc zh_E0_ok hp h0 ?_
      show zZ sc g 500 jm pc lv1 [] t1 (538, 0, 0) Q
      have hrem : zr_PO jm pc rw p sc Q (B p) K 1 := zr_all hp hrw k1 (hS p K · d4) k2 k3 k5 k4 k6 (fun w' hw => by
        obtain ⟨g2, hw2, -⟩ := hw
        have hq := hQ w' (zSm_ok (zr_Sw2 hrw hnK) hw2)
        have hz : (some 0).map (zv g) = some (.int 0) := congrArg some (zv_i 0)
        rw [hz] at hq
        exact hq)
      intro l w hl hw
      have hw2 : zR_w g (zw_t t1) 538 w := by
        refine zR_sm (t := t1) (fun a ha => ?_) hw
        rw [zw_t_g t1 (by omega)]
        by_cases hk : zr_keep a = true
        · rw [if_pos hk]
          exact Or.inl rfl
        · rw [if_neg hk]
          exact Or.inr (Or.inl rfl)
      rw [e4] at hl
      have hgen : zZ sc g 500 jm pc (zr [1847, 4 * p + 1, 4 * K + 1, 5]) [] (zw_t t1) (538, 0, 0) Q := by
        refine zGEN (g' := (fun n => if n = 600 then zk_i K else zr_gv g (zw_t t1) 0 n (zr_f rw n), g.2.1, g.2.2)) (lv' := zs_LV p 1 0) (t' := zr_T rw (B p 0)) (zs_Sl0 k1 (by omega) (by dsimp only; rw [if_pos rfl])) (zr_Sm2 hrw hn0 d6 d7 (fun a x hl i hi => ?_)) (hrem _ hG hsc (by dsimp only; rw [if_pos rfl]))
        have hm := zr_look_mem hl
        obtain ⟨q1, q2, q3, q4, q5, q6⟩ := zr_ok_q hrw hm
        have q3' : 700 ≤ x.2.2 := q3
        have e6 : zr_f rw (x.2.2 + i) = some (a, x) := q6 i hi
        show (if x.2.2 + i = 600 then zk_i K else zr_gv g (zw_t t1) 0 (x.2.2 + i) (zr_f rw (x.2.2 + i))) = _
        rw [if_neg (by omega), e6]
        unfold zr_gv
        dsimp only
        rw [Nat.add_sub_cancel_left]
      exact hgen l w hl hw2
    · cases h
  · cases h
theorem zP_456 : zP 456 = some zt_456 := rfl
theorem zP_463 : zP 463 = some zt_463 := rfl
/-! differ -/
def zd_rw : zr_R := [(491, 1, 24, 740), (505, 1, 12, 700)]
def zd_S (_ _ : Nat) (_ : ze_T) (_ : ze_M) : Option ((Option Nat ⊕ Nat) × ze_T × ze_M) := none
def zd_m (n : Nat) : Int32 := if n = 1 then 1 else (if n = 2 then 3 else 7)
noncomputable def zd_B0 (n : Nat) : ze_T := match z1_0 with
  | some (.inr (_, _, _, t, _)) => (match zq zh_E0 20000 (fun pc => Nat.beq pc 77) 400 (fun _ _ => false) 500 463 zt_463 (zk_at zt_463 0) (zr [1847, 4 * n + 1, 5]) [] (zt_s (zw_t t) 536 (3, 1, 1)) (538, 0, 0) with
    | some (.inr (_, _, _, t2, _)) => zr_cl zd_rw t2
    | _ => ze_N)
  | _ => ze_N
noncomputable def zd_B (n t : Nat) : ze_T := match t with
  | 0 => zd_B0 n
  | t + 1 => zr_B 463 zt_463 zd_S (zd_m n) 77 85 zd_rw n (zd_B0 n) (t + 1)
noncomputable def zd_c (n t : Nat) : Bool := zr_c 463 zt_463 zd_S (zd_m n) 77 85 zd_rw n n t (zd_B n (t - 1)) (zd_B n t)
