/-! ===== the hunt's count is so ===== -/
section ZUA
theorem zk_i_o {u : Nat} (h : u < 2147483648) : zb_o (zk_i u) = u + 2147483648 := by
  have e : (zk_i u).toUInt32.toNat = u := by
    show (BitVec.ofNat 32 u).toNat = u
    rw [BitVec.toNat_ofNat]
    exact Nat.mod_eq_of_lt (by omega)
  show ((zk_i u).toUInt32.toNat + 2147483648) % 4294967296 = _
  rw [e]
  omega
theorem zk_i_s {u : Nat} (h : u < 2147483647) : zk_i u + 1 = zk_i (u + 1) := by
  apply Int32.toBitVec_inj.mp
  show BitVec.ofNat 32 u + 1#32 = BitVec.ofNat 32 (u + 1)
  exact (BitVec.ofNat_add u 1).symm
theorem zv_i {g : zy_G} (x : Nat) : zv g (4 * x) = .int (zk_i x) := by
  have h0 : Nat.mod (4 * x) 4 = 0 := by show (4 * x) % 4 = 0; omega
  rw [zc_i0 h0]
  have : 4 * x / 4 = x := by omega
  rw [this]
theorem zv_n {g : zy_G} (i : Nat) : zv g (16 * i + 3) = .int (g.1 i) := zv_en (.retAddr i)
theorem zc_ct_n (i : Nat) : zc_ct (16 * i + 3) = 1 := by
  rw [zc_ct_d]
  have : zc_d (16 * i + 3) = .retAddr i := zc_d_en (.retAddr i) (fun b => by simp)
  rw [this]
  rfl
theorem zh_ot_ok {sc : pt_Sc} {g : zy_G} : ∀ i c, (if i = 0 then none else (pt_look pt_OTL i).map ze_pkc) = some c → ∃ c', pt_OT sc i = some c' ∧ zR_c g c c' := by
  intro i c h
  unfold pt_OT
  split at h
  · cases h
  · rename_i hi
    rw [if_neg hi]
    cases hl : pt_look pt_OTL i with
    | none => rw [hl] at h; cases h
    | some c' =>
      rw [hl] at h
      cases h
      have := List.all_eq_true.mp zo_all _ (pt_look_mem hl)
      exact ⟨c', rfl, zo_pkc this⟩
theorem zh_E_ok {sc : pt_Sc} {g : zy_G} {u : Nat} (hu : u ≤ 900000) (h0 : g.1 200 = zk_i u) (h1 : g.1 201 = zk_i (u + 1)) : zE_ok sc g zh_E := by
  refine ⟨fun _ _ _ h => (by cases h), ?_, ?_, fun _ _ h => (by cases h), zh_ot_ok⟩
  · intro ins x y v h
    have h2 : zh_bn ins x y = some v := h
    unfold zh_bn at h2
    split at h2
    · split at h2
      · rename_i hz
        subst hz
        cases h2
        refine ⟨rfl, fun r => ?_⟩
        show some (Value.int (g.1 200 + 1) :: r) = some (.int (g.1 201) :: r)
        rw [h0, h1, zk_i_s (by omega)]
      · cases h2
    · cases h2
  · intro ins x y b h
    have hb : zb_in g zh_bx 0 := by
      refine ⟨?_, fun z => by omega, fun z => by omega, fun z => by omega, by omega⟩
      intro i
      have hlt := zb_o_lt (g.1 i)
      show (if 200 = i then (2147483648, 2148383648) else (if 201 = i then (2147483649, 2148383649) else (0, 4294967295))).1 ≤ _ ∧ _ ≤ (if 200 = i then (2147483648, 2148383648) else (if 201 = i then (2147483649, 2148383649) else (0, 4294967295))).2
      by_cases e0 : 200 = i
      · subst e0
        rw [if_pos rfl, h0, zk_i_o (by omega)]
        exact ⟨by show 2147483648 ≤ _; omega, by show _ ≤ 2148383648; omega⟩
      · rw [if_neg e0]
        by_cases e1 : 201 = i
        · subst e1
          rw [if_pos rfl, h1, zk_i_o (by omega)]
          exact ⟨by show 2147483649 ≤ _; omega, by show _ ≤ 2148383649; omega⟩
        · rw [if_neg e1]
          exact ⟨Nat.zero_le _, by show _ ≤ 4294967295; omega⟩
    exact zb_j_ok hb h
/-- locals that differ in the eighth alone -/
theorem zSl_8 {g g' : zy_G} {lv lv' c c' : Nat} (h8 : zp_g lv (zp_D 8) = c + 1) (h8' : zp_g lv' (zp_D 8) = c' + 1) (ho : ∀ i, i ≠ 8 → zp_g lv (zp_D i) = zp_g lv' (zp_D i)) (hn : ∀ i e, i ≠ 8 → zp_g lv (zp_D i) = e + 1 → e = 15 ∨ Nat.mod e 4 ≠ 3) (hv : zv g c = zv g' c') (hct : zc_ct c = zc_ct c') (hc : c ≠ 15) (hc' : c' ≠ 15) : zSl g g' lv lv' := by
  intro i e hi
  by_cases hi8 : i = 8
  · subst hi8
    right
    have he : e = c' := by omega
    subst he
    refine ⟨c, h8, hc, hv, hct, ?_⟩
    rw [ho 9 (by decide)]
    exact id
  · have hi2 := hi
    rw [← ho i hi8] at hi2
    rcases hn i e hi8 hi2 with z | z
    · exact Or.inl z
    · by_cases h15 : e = 15
      · exact Or.inl h15
      · right
        refine ⟨e, hi2, h15, zv_nl z, rfl, ?_⟩
        by_cases h7 : i + 1 = 8
        · rw [h7, h8', h8]
          intro z2
          omega
        · rw [ho (i + 1) h7]
          exact id
theorem zh_nl_ok {lv : Nat} (h : zh_nl lv = true) : ∀ i e, zp_g lv (zp_D i) = e + 1 → e = 15 ∨ Nat.mod e 4 ≠ 3 := by
  unfold zh_nl at h
  rw [Bool.and_eq_true, List.all_eq_true] at h
  intro i e hi
  by_cases h30 : i < 30
  · have := h.1 i (List.mem_range.mpr h30)
    rw [hi] at this
    have h2 : (Nat.beq e 15 || !(Nat.beq (Nat.mod e 4) 3)) = true := this
    rw [Bool.or_eq_true] at h2
    rcases h2 with z | z
    · exact Or.inl (Nat.eq_of_beq_eq_true z)
    · right
      intro z2
      rw [z2] at z
      cases z
  · exfalso
    have hlt := Nat.blt_eq.mp h.2
    obtain ⟨f, rfl⟩ : ∃ f, i = 30 + f := ⟨i - 30, by omega⟩
    have h0 : zp_g lv (zp_D (30 + f)) = 0 := by
      show lv / zp_D (30 + f) % _ = 0
      have hp := zp_Dp f
      have h3 : zp_D 30 * 1 ≤ zp_D 30 * zp_D f := Nat.mul_le_mul_left _ hp
      rw [Nat.mul_one] at h3
      rw [zp_Da, Nat.div_eq_of_lt (Nat.lt_of_lt_of_le hlt h3)]
    omega
theorem zh_lv_g {lv d c : Nat} (hd : d < 100) (hc : c + 1 < 4722366482869645213696) (i : Nat) : zp_g (zh_lv lv d c) (zp_D i) = if 8 = i then c + 1 else (if 7 = i then 4 * d + 1 else zp_g lv (zp_D i)) := by
  unfold zh_lv
  rw [zp_gs hc, zp_gs (by show 4 * d + 1 < _; omega)]
  rfl
theorem zh_Sl {g g' : zy_G} {lv d c c' : Nat} (hd : d < 100) (hn : zh_nl lv = true) (hb : c + 1 < 4722366482869645213696) (hb' : c' + 1 < 4722366482869645213696) (hv : zv g c = zv g' c') (hct : zc_ct c = zc_ct c') (hc : c ≠ 15) (hc' : c' ≠ 15) : zSl g g' (zh_lv lv d c) (zh_lv lv d c') := by
  refine zSl_8 (c := c) (c' := c') ?_ ?_ ?_ ?_ hv hct hc hc'
  · rw [zh_lv_g hd hb, if_pos rfl]
  · rw [zh_lv_g hd hb', if_pos rfl]
  · intro i hi
    have h8 : ¬ 8 = i := fun z => hi z.symm
    rw [zh_lv_g hd hb, zh_lv_g hd hb', if_neg h8, if_neg h8]
  · intro i e hi he
    rw [zh_lv_g hd hb, if_neg (fun z => hi z.symm)] at he
    split at he
    · right
      have : e = 4 * d := by omega
      subst this
      show (4 * d) % 4 ≠ 3
      omega
    · exact zh_nl_ok hn i e he
theorem zh_T_g {t : ze_T} {aT aL : Nat} {l1 l2 : List Nat} (hT : aT < 1024) (hL : aL < 1024) {a : Nat} (ha : a < 1024) : zt_g (zh_T t aT aL l1 l2) a = if aT = a then (1, 13, zr l1) else (if aL = a then (1, 13, zr l2) else zt_g t a) := by
  unfold zh_T
  rw [zt_l_g t _ (fun q hq => ?_) a ha]
  · show ((if aT = a then some (1, 13, zr l1) else (if aL = a then some (1, 13, zr l2) else none)).getD (zt_g t a)) = _
    split
    · rfl
    · split <;> rfl
  · rcases List.mem_cons.mp hq with rfl | hq
    · exact hT
    · rw [List.mem_singleton] at hq
      subst hq
      exact hL
theorem zh_Sm {g g' : zy_G} {n : Nat} {t : ze_T} {aT aL : Nat} {l1 l2 l1' l2' : List Nat} (hn : n ≤ 1024) (hT : aT < 1024) (hL : aL < 1024) (hnt : zn_t t = true)
    (b1 : l1.all (fun c => Nat.blt c 4722366482869645213696) = true) (b1' : l1'.all (fun c => Nat.blt c 4722366482869645213696) = true) (b2 : l2.all (fun c => Nat.blt c 4722366482869645213696) = true) (b2' : l2'.all (fun c => Nat.blt c 4722366482869645213696) = true)
    (h1 : ∀ i, zv g (l1.getD i 0) = zv g' (l1'.getD i 0)) (h2 : ∀ i, zv g (l2.getD i 0) = zv g' (l2'.getD i 0)) : zSm g g' n (zh_T t aT aL l1 l2) (zh_T t aT aL l1' l2') := by
  intro a ha
  rw [zh_T_g hT hL (by omega), zh_T_g hT hL (by omega)]
  by_cases ea : aT = a
  · rw [if_pos ea, if_pos ea]
    refine Or.inr (Or.inr ⟨rfl, rfl, Or.inl rfl, fun i => ?_⟩)
    dsimp only
    rw [zr_g _ b1, zr_g _ b1']
    exact h1 i
  · rw [if_neg ea, if_neg ea]
    by_cases eb : aL = a
    · rw [if_pos eb, if_pos eb]
      refine Or.inr (Or.inr ⟨rfl, rfl, Or.inl rfl, fun i => ?_⟩)
      dsimp only
      rw [zr_g _ b2, zr_g _ b2']
      exact h2 i
    · rw [if_neg eb, if_neg eb]
      exact Or.inr (Or.inl ⟨rfl, zn_t_ok hnt a⟩)
theorem zh_l1_g (i : Nat) : zh_l1.getD i 0 = if i < 13 then 16 * (210 + i) + 3 else 0 := by
  rcases i with _ | _ | _ | _ | _ | _ | _ | _ | _ | _ | _ | _ | _ | i <;> first | rfl | skip
theorem zh_l2_g (i : Nat) : zh_l2.getD i 0 = if i < 13 then 16 * (230 + i) + 3 else 0 := by
  rcases i with _ | _ | _ | _ | _ | _ | _ | _ | _ | _ | _ | _ | _ | i <;> first | rfl | skip
theorem zl_set_g (l : List Nat) (d c i : Nat) (hd : d < l.length) : (l.set d c).getD i 0 = if d = i then c else l.getD i 0 := by
  rw [List.getD_eq_getElem?_getD, List.getD_eq_getElem?_getD, List.getElem?_set]
  by_cases h : d = i
  · rw [if_pos h, if_pos h, if_pos hd]
    rfl
  · rw [if_neg h, if_neg h]
theorem zl_set_b {l : List Nat} {d c : Nat} (h : l.all (fun c => Nat.blt c 4722366482869645213696) = true) (hc : c < 4722366482869645213696) : (l.set d c).all (fun c => Nat.blt c 4722366482869645213696) = true := by
  rw [List.all_eq_true] at h ⊢
  intro x hx
  rcases List.mem_or_eq_of_mem_set hx with z | z
  · exact h x z
  · subst z
    exact Nat.blt_eq.mpr hc
/-- at the loop's head, this deep, with these tries so far, at this turn -/
def zh_P (sc : pt_Sc) (Q : pz_O → Prop) (lv : Nat) (t : ze_T) (m : ze_M) (aT aL d : Nat) (τ : Nat → Nat) (u : Nat) : Prop := ∀ g, zG g → sc.2.2 = g.2.2 → g.1 200 = zk_i u → (∀ i, i ≤ d → g.1 (210 + i) = zk_i (τ i)) → zZ sc g 500 322 32 (zh_lv lv d 3203) [] (zh_T t aT aL zh_l1 zh_l2) m Q
theorem zh_m_ok {m m' : ze_M} (h : zh_m m m' = true) : m = m' := by
  obtain ⟨a, b, c⟩ := m
  obtain ⟨a', b', c'⟩ := m'
  unfold zh_m at h
  rw [Bool.and_eq_true, Bool.and_eq_true] at h
  have e1 : a = a' := Nat.eq_of_beq_eq_true h.1.1
  have e2 : b = b' := Nat.eq_of_beq_eq_true h.1.2
  have e3 : c = c' := Nat.eq_of_beq_eq_true h.2
  subst e1
  subst e2
  subst e3
  rfl
theorem zP_322 : zP 322 = some zt_322 := rfl
theorem zh_b1 : zh_l1.all (fun c => Nat.blt c 4722366482869645213696) = true := by decide
theorem zh_b2 : zh_l2.all (fun c => Nat.blt c 4722366482869645213696) = true := by decide
section ZUB
variable {sc : pt_Sc} {Q : pz_O → Prop} {lv : Nat} {t : ze_T} {m : ze_M} {aT aL k c : Nat}
/-- g with the turn's successor named -/
def zh_g1 (g : zy_G) (u : Nat) : zy_G := (fun n => if n = 201 then zk_i (u + 1) else g.1 n, g.2.1, g.2.2)
theorem zh_try_ok (hm : m.1 ≤ 1024) (hT : aT < 1024) (hL : aL < 1024) (hnt : zn_t t = true) (hnl : zh_nl lv = true) {d x : Nat} (hd : d < 12) (hx : x < 8) (hchk : zh_try lv t m aT aL d x = true) {τ : Nat → Nat} {u : Nat} (hu : u ≤ 900000) (hτ : τ d = x) (hP : ∀ τ2 : Nat → Nat, (∀ i, i ≤ d → τ2 i = τ i) → τ2 (d + 1) = 0 → zh_P sc Q lv t m aT aL (d + 1) τ2 (u + 1)) : zh_P sc Q lv t m aT aL d τ u := by
  intro g hG hsc h200 hτs
  unfold zh_try zh_r at hchk
  split at hchk
  · rename_i pc lv2 st2 t2 m2 hrun
    rw [Bool.and_eq_true, Bool.and_eq_true, Bool.and_eq_true, Bool.and_eq_true, Bool.and_eq_true] at hchk
    obtain ⟨⟨⟨⟨⟨c1, c2⟩, c3⟩, c4⟩, c5⟩, c6⟩ := hchk
    have e1 : pc = 32 := Nat.eq_of_beq_eq_true c1
    have e2 := Nat.eq_of_beq_eq_true c2
    have e3 : st2 = [] := List.isEmpty_iff.mp c3
    have e4 := zh_m_ok c4
    have e5 := Nat.eq_of_beq_eq_true c5
    have e6 := zq_t_ok _ _ c6
    generalize hlam : zp_g (zt_g t2 aL).2.2 (zp_D d) = lam at e5 e6
    have hlb : lam < 4722366482869645213696 := by
      rw [← hlam]
      exact Nat.mod_lt _ (by decide)
    subst e1
    subst e3
    subst e4
    have hx4 : 4 * x < 4722366482869645213696 := by omega
    have len1 : d < zh_l1.length := by show d < 13; omega
    have len2 : d < zh_l2.length := by show d < 13; omega
    have len3 : d + 1 < (zh_l1.set d (4 * x)).length := by rw [List.length_set]; show d + 1 < 13; omega
    -- the names while the turn runs
    have hG1 : zG (zh_g1 g u) := hG
    have hsc1 : sc.2.2 = (zh_g1 g u).2.2 := hsc
    have hother : ∀ n, n ≠ 201 → (zh_g1 g u).1 n = g.1 n := fun n hn => by
      unfold zh_g1
      dsimp only
      rw [if_neg hn]
    have h200' : (zh_g1 g u).1 200 = zk_i u := (hother 200 (by decide)).trans h200
    have h201' : (zh_g1 g u).1 201 = zk_i (u + 1) := by
      unfold zh_g1
      dsimp only
      rw [if_pos rfl]
    refine zGEN (g' := zh_g1 g u) (lv' := zh_lv lv d 3203) (t' := zh_T t aT aL (zh_l1.set d (4 * x)) zh_l2) (zh_Sl (by omega) hnl (by decide) (by decide) ?_ rfl (by decide) (by decide)) (zh_Sm hm hT hL hnt zh_b1 (zl_set_b zh_b1 hx4) zh_b2 zh_b2 ?_ ?_) ?_
    · rw [show (3203 : Nat) = 16 * 200 + 3 from rfl, zv_n, zv_n, hother 200 (by decide)]
    · intro i
      rw [zl_set_g _ _ _ _ len1]
      by_cases hi : d = i
      · subst hi
        rw [if_pos rfl, zh_l1_g, if_pos (by omega), zv_n, zv_i, hτs d (Nat.le_refl _), hτ]
      · rw [if_neg hi, zh_l1_g]
        split
        · rw [zv_n, zv_n, hother _ (by omega)]
        · exact zv_nl (by decide)
    · intro i
      rw [zh_l2_g]
      split
      · rw [zv_n, zv_n, hother _ (by omega)]
      · exact zv_nl (by decide)
    refine ze_go hG1 hsc1 (zh_E_ok hu h200' h201') zP_322 hrun ?_
    show zZ sc (zh_g1 g u) 500 322 32 lv2 [] t2 _ Q
    rw [e2, e6]
    -- the names behind it
    have hlv : ∃ y, zv (zh_g1 g u) lam = .int y := ⟨_, zc_i0 e5⟩
    obtain ⟨y, hy⟩ := hlv
    refine zGEN (g' := (fun n => if n = 200 then zk_i (u + 1) else (if n = 210 + (d + 1) then zk_i 0 else (if n = 230 + d then y else g.1 n)), g.2.1, g.2.2)) (lv' := zh_lv lv (d + 1) 3203) (t' := zh_T t aT aL zh_l1 zh_l2) (zh_Sl (by omega) hnl (by decide) (by decide) ?_ rfl (by decide) (by decide)) (zh_Sm hm hT hL hnt (zl_set_b (zl_set_b zh_b1 hx4) (by decide)) zh_b1 (zl_set_b zh_b2 hlb) zh_b2 ?_ ?_) ?_
    · rw [show (3219 : Nat) = 16 * 201 + 3 from rfl, show (3203 : Nat) = 16 * 200 + 3 from rfl, zv_n, zv_n, h201']
      rfl
    · intro i
      rw [zl_set_g _ _ _ _ len3, zl_set_g _ _ _ _ len1, zh_l1_g]
      by_cases hi : d + 1 = i
      · subst hi
        rw [if_pos rfl, if_pos (by omega), zv_n]
        show _ = Value.int (if 210 + (d + 1) = 200 then _ else (if 210 + (d + 1) = 210 + (d + 1) then zk_i 0 else _))
        rw [if_neg (by omega), if_pos rfl]
        exact zv_i 0
      · rw [if_neg hi]
        by_cases hi2 : d = i
        · subst hi2
          rw [if_pos rfl, if_pos (by omega), zv_n, zv_i]
          show _ = Value.int (if 210 + d = 200 then _ else (if 210 + d = 210 + (d + 1) then _ else (if 210 + d = 230 + d then _ else g.1 (210 + d))))
          rw [if_neg (by omega), if_neg (by omega), if_neg (by omega), hτs d (Nat.le_refl _), hτ]
        · rw [if_neg hi2]
          split
          · rw [zv_n, zv_n, hother _ (by omega)]
            show _ = Value.int (if 210 + i = 200 then _ else (if 210 + i = 210 + (d + 1) then _ else (if 210 + i = 230 + d then _ else g.1 (210 + i))))
            rw [if_neg (by omega), if_neg (by omega)]
            split
            · exfalso
              omega
            · rfl
          · exact zv_nl (by decide)
    · intro i
      rw [zl_set_g _ _ _ _ len2, zh_l2_g]
      by_cases hi : d = i
      · subst hi
        rw [if_pos rfl, if_pos (by omega), zv_n, hy]
        show _ = Value.int (if 230 + d = 200 then _ else (if 230 + d = 210 + (d + 1) then _ else (if 230 + d = 230 + d then y else _)))
        rw [if_neg (by omega), if_neg (by omega), if_pos rfl]
      · rw [if_neg hi]
        split
        · rw [zv_n, zv_n, hother _ (by omega)]
          show _ = Value.int (if 230 + i = 200 then _ else (if 230 + i = 210 + (d + 1) then _ else (if 230 + i = 230 + d then _ else g.1 (230 + i))))
          rw [if_neg (by omega), if_neg (by omega), if_neg (by omega)]
        · exact zv_nl (by decide)
    · refine hP (fun i => if i = d + 1 then 0 else τ i) (fun i hi => if_neg (by omega)) (if_pos rfl) _ hG hsc (by dsimp only; rw [if_pos rfl]) ?_
      intro i hi
      show (if 210 + i = 200 then _ else (if 210 + i = 210 + (d + 1) then zk_i 0 else (if 210 + i = 230 + d then _ else g.1 (210 + i)))) = zk_i (if i = d + 1 then 0 else τ i)
      rw [if_neg (by omega)]
      by_cases h1 : i = d + 1
      · subst h1
        rw [if_pos rfl, if_pos rfl]
      · rw [if_neg (by omega), if_neg (by omega), if_neg h1]
        exact hτs i (by omega)
  · cases hchk
end ZUB
end ZUA
