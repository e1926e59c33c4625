/-! ===== the hunt's way back, its end, and the whole hunt ===== -/
section ZVA
variable {sc : pt_Sc} {Q : pz_O → Prop} {lv : Nat} {t : ze_T} {m : ze_M} {aT aL k c : Nat}
/-- the tries' row where a step goes back -/
def zh_lp (k c d x : Nat) : List Nat := (if d + 1 < k then zh_l1.set (d + 1) (4 * c) else zh_l1).set d (4 * x)
theorem zh_lp_b {k c d x : Nat} (hc : c ≤ 8) (hx : x ≤ 8) : (zh_lp k c d x).all (fun c => Nat.blt c 4722366482869645213696) = true := by
  unfold zh_lp
  apply zl_set_b _ (by omega)
  split
  · exact zl_set_b zh_b1 (by omega)
  · exact zh_b1
theorem zh_lp_g {k c d x : Nat} (hk : k ≤ 12) (hd : d < k) (i : Nat) : (zh_lp k c d x).getD i 0 = if d = i then 4 * x else (if d + 1 = i ∧ d + 1 < k then 4 * c else zh_l1.getD i 0) := by
  unfold zh_lp
  have l1 : zh_l1.length = 13 := rfl
  by_cases h : d + 1 < k
  · rw [if_pos h, zl_set_g _ _ _ _ (by rw [List.length_set, l1]; omega), zl_set_g _ _ _ _ (by rw [l1]; omega)]
    by_cases h1 : d = i
    · rw [if_pos h1, if_pos h1]
    · rw [if_neg h1, if_neg h1]
      by_cases h2 : d + 1 = i
      · rw [if_pos h2, if_pos ⟨h2, h⟩]
      · rw [if_neg h2, if_neg (fun z => h2 z.1)]
  · rw [if_neg h, zl_set_g _ _ _ _ (by rw [l1]; omega)]
    by_cases h1 : d = i
    · rw [if_pos h1, if_pos h1]
    · rw [if_neg h1, if_neg h1, if_neg (fun z => h z.2)]
theorem zh_pop_ok (hm : m.1 ≤ 1024) (hT : aT < 1024) (hL : aL < 1024) (hnt : zn_t t = true) (hnl : zh_nl lv = true) (hk : k ≤ 12) (hc : c ≤ 8) {d x : Nat} (hd : d < k) (hx : x < c) (hchk : zh_pop k c lv t m aT aL d x = true) {τ : Nat → Nat} {u : Nat} (hu : u ≤ 900000) (hτ : τ d = x) (hτ2 : d + 1 < k → τ (d + 1) = c) (hP : ∀ τ2 : Nat → Nat, (∀ i, i < d → τ2 i = τ i) → τ2 d = x + 1 → zh_P sc Q lv t m aT aL d τ2 (u + 1)) : zh_P sc Q lv t m aT aL (d + 1) τ u := by
  intro g hG hsc h200 hτs
  unfold zh_pop zh_r at hchk
  split at hchk
  · rename_i pc lv2 st2 t2 m2 hrun
    rw [Bool.and_eq_true, Bool.and_eq_true, Bool.and_eq_true, Bool.and_eq_true] at hchk
    obtain ⟨⟨⟨⟨c1, c2⟩, c3⟩, c4⟩, c6⟩ := hchk
    have e1 : pc = 32 := Nat.eq_of_beq_eq_true c1
    have e2 := Nat.eq_of_beq_eq_true c2
    have e3 : st2 = [] := List.isEmpty_iff.mp c3
    have e4 := zh_m_ok c4
    have e6 := zq_t_ok _ _ c6
    subst e1
    subst e3
    subst e4
    have hrun2 : ze zh_E 20000 (fun pc _ => Nat.beq pc 32) 500 322 zt_322 (zk_at zt_322 32) (zh_lv lv (d + 1) 3203) [] (zh_T t aT aL (zh_lp k c d x) zh_l2) _ = some (.inr (32, lv2, [], t2, _)) := hrun
    have e7 : t2 = zh_T t aT aL (zh_lp k c d (x + 1)) zh_l2 := e6
    have hG1 : zG (zh_g1 g u) := hG
    have hsc1 : sc.2.2 = (zh_g1 g u).2.2 := hsc
    have hother : ∀ n, n ≠ 201 → (zh_g1 g u).1 n = g.1 n := fun n hn => by
      unfold zh_g1
      dsimp only
      rw [if_neg hn]
    have h200' : (zh_g1 g u).1 200 = zk_i u := (hother 200 (by decide)).trans h200
    have h201' : (zh_g1 g u).1 201 = zk_i (u + 1) := by
      unfold zh_g1
      dsimp only
      rw [if_pos rfl]
    refine zGEN (g' := zh_g1 g u) (lv' := zh_lv lv (d + 1) 3203) (t' := zh_T t aT aL (zh_lp k c d x) zh_l2) (zh_Sl (by omega) hnl (by decide) (by decide) ?_ rfl (by decide) (by decide)) (zh_Sm hm hT hL hnt zh_b1 (zh_lp_b hc (by omega)) zh_b2 zh_b2 ?_ ?_) ?_
    · rw [show (3203 : Nat) = 16 * 200 + 3 from rfl, zv_n, zv_n, hother 200 (by decide)]
    · intro i
      rw [zh_lp_g hk hd]
      by_cases hi : d = i
      · subst hi
        rw [if_pos rfl, zh_l1_g, if_pos (by omega), zv_n, zv_i, hτs d (by omega), hτ]
      · rw [if_neg hi]
        by_cases h2 : d + 1 = i ∧ d + 1 < k
        · rw [if_pos h2]
          obtain ⟨h3, h4⟩ := h2
          subst h3
          rw [zh_l1_g, if_pos (by omega), zv_n, zv_i, hτs (d + 1) (by omega), hτ2 h4]
        · rw [if_neg h2, zh_l1_g]
          split
          · rw [zv_n, zv_n, hother _ (by omega)]
          · exact zv_nl (by decide)
    · intro i
      rw [zh_l2_g]
      split
      · rw [zv_n, zv_n, hother _ (by omega)]
      · exact zv_nl (by decide)
    refine ze_go hG1 hsc1 (zh_E_ok hu h200' h201') zP_322 hrun2 ?_
    show zZ sc (zh_g1 g u) 500 322 32 lv2 [] t2 _ Q
    rw [e2, e7]
    refine zGEN (g' := (fun n => if n = 200 then zk_i (u + 1) else (if n = 210 + d then zk_i (x + 1) else g.1 n), g.2.1, g.2.2)) (lv' := zh_lv lv d 3203) (t' := zh_T t aT aL zh_l1 zh_l2) (zh_Sl (by omega) hnl (by decide) (by decide) ?_ rfl (by decide) (by decide)) (zh_Sm hm hT hL hnt (zh_lp_b hc (by omega)) zh_b1 zh_b2 zh_b2 ?_ ?_) ?_
    · rw [show (3219 : Nat) = 16 * 201 + 3 from rfl, show (3203 : Nat) = 16 * 200 + 3 from rfl, zv_n, zv_n, h201']
      rfl
    · intro i
      rw [zh_lp_g hk hd, zh_l1_g]
      by_cases hi : d = i
      · subst hi
        rw [if_pos rfl, if_pos (by omega), zv_n, zv_i]
        show _ = Value.int (if 210 + d = 200 then _ else (if 210 + d = 210 + d then zk_i (x + 1) else _))
        rw [if_neg (by omega), if_pos rfl]
      · rw [if_neg hi]
        by_cases h2 : d + 1 = i ∧ d + 1 < k
        · rw [if_pos h2]
          obtain ⟨h3, h4⟩ := h2
          subst h3
          rw [if_pos (by omega), zv_n, zv_i]
          show _ = Value.int (if 210 + (d + 1) = 200 then _ else (if 210 + (d + 1) = 210 + d then _ else g.1 (210 + (d + 1))))
          rw [if_neg (by omega), if_neg (by omega), hτs (d + 1) (by omega), hτ2 h4]
        · rw [if_neg h2]
          split
          · rw [zv_n, zv_n, hother _ (by omega)]
            show _ = Value.int (if 210 + i = 200 then _ else (if 210 + i = 210 + d then _ else g.1 (210 + i)))
            rw [if_neg (by omega), if_neg (by omega)]
          · exact zv_nl (by decide)
    · intro i
      rw [zh_l2_g]
      split
      · rw [zv_n, zv_n, hother _ (by omega)]
        show _ = Value.int (if 230 + i = 200 then _ else (if 230 + i = 210 + d then _ else g.1 (230 + i)))
        rw [if_neg (by omega)]
        split
        · exfalso
          omega
        · rfl
      · exact zv_nl (by decide)
    · refine hP (fun i => if i = d then x + 1 else τ i) (fun i hi => if_neg (by omega)) (if_pos rfl) _ hG hsc (by dsimp only; rw [if_pos rfl]) ?_
      intro i hi
      show (if 210 + i = 200 then _ else (if 210 + i = 210 + d then zk_i (x + 1) else g.1 (210 + i))) = zk_i (if i = d then x + 1 else τ i)
      rw [if_neg (by omega)]
      by_cases h1 : i = d
      · subst h1
        rw [if_pos rfl, if_pos rfl]
      · rw [if_neg (by omega), if_neg h1]
        exact hτs i (by omega)
  · cases hchk
/-- the cells that the hunt used are left unknown -/
def zh_W (t : ze_T) (aT aL : Nat) : ze_T := zt_l t [(aT, (10000, 0, 0)), (aL, (10000, 0, 0))]
theorem zh_W_g {t : ze_T} {aT aL : Nat} (hT : aT < 1024) (hL : aL < 1024) {a : Nat} (ha : a < 1024) : zt_g (zh_W t aT aL) a = if aT = a then (10000, 0, 0) else (if aL = a then (10000, 0, 0) else zt_g t a) := by
  unfold zh_W
  rw [zt_l_g t _ (fun q hq => ?_) a ha]
  · show ((if aT = a then some (10000, 0, 0) else (if aL = a then some (10000, 0, 0) else none)).getD (zt_g t a)) = _
    split
    · rfl
    · split <;> rfl
  · rcases List.mem_cons.mp hq with rfl | hq
    · exact hT
    · rw [List.mem_singleton] at hq
      subst hq
      exact hL
theorem zh_exit_ok (hm : m.1 ≤ 1024) (hT : aT < 1024) (hL : aL < 1024) (hnt : zn_t t = true) (hnl : zh_nl lv = true) (hc : c ≤ 8) (hchk : zh_exit c lv t m aT aL = true) {τ : Nat → Nat} {u : Nat} (hu : u ≤ 900000) (hτ : τ 0 = c) (hQ : ∀ w', (∃ g : zy_G, zR_w g (zh_W t aT aL) m.1 w' ∧ sc.2.2 = g.2.2) → Q (.inl (some (.int 0)), w', m.2.1, m.2.2)) : zh_P sc Q lv t m aT aL 0 τ u := by
  intro g hG hsc h200 hτs
  unfold zh_exit zh_r at hchk
  split at hchk
  · rename_i v t2 m2 hrun
    rw [Bool.and_eq_true, Bool.and_eq_true] at hchk
    obtain ⟨⟨c1, c4⟩, c6⟩ := hchk
    have e1 : v = 0 := Nat.eq_of_beq_eq_true c1
    have e4 := zh_m_ok c4
    have e6 := zq_t_ok _ _ c6
    subst e1
    subst e4
    have hx4 : 4 * c < 4722366482869645213696 := by omega
    have len1 : 0 < zh_l1.length := by decide
    have hG1 : zG (zh_g1 g u) := hG
    have hsc1 : sc.2.2 = (zh_g1 g u).2.2 := hsc
    have hother : ∀ n, n ≠ 201 → (zh_g1 g u).1 n = g.1 n := fun n hn => by
      unfold zh_g1
      dsimp only
      rw [if_neg hn]
    have h200' : (zh_g1 g u).1 200 = zk_i u := (hother 200 (by decide)).trans h200
    have h201' : (zh_g1 g u).1 201 = zk_i (u + 1) := by
      unfold zh_g1
      dsimp only
      rw [if_pos rfl]
    refine zGEN (g' := zh_g1 g u) (lv' := zh_lv lv 0 3203) (t' := zh_T t aT aL (zh_l1.set 0 (4 * c)) zh_l2) (zh_Sl (by omega) hnl (by decide) (by decide) ?_ rfl (by decide) (by decide)) (zh_Sm hm hT hL hnt zh_b1 (zl_set_b zh_b1 hx4) zh_b2 zh_b2 ?_ ?_) ?_
    · rw [show (3203 : Nat) = 16 * 200 + 3 from rfl, zv_n, zv_n, hother 200 (by decide)]
    · intro i
      rw [zl_set_g _ _ _ _ len1]
      by_cases hi : 0 = i
      · subst hi
        rw [if_pos rfl, zh_l1_g, if_pos (by omega), zv_n, zv_i, hτs 0 (Nat.le_refl _), hτ]
      · rw [if_neg hi, zh_l1_g]
        split
        · rw [zv_n, zv_n, hother _ (by omega)]
        · exact zv_nl (by decide)
    · intro i
      rw [zh_l2_g]
      split
      · rw [zv_n, zv_n, hother _ (by omega)]
      · exact zv_nl (by decide)
    refine ze_go hG1 hsc1 (zh_E_ok hu h200' h201') zP_322 hrun ?_
    intro w' hw'
    rw [e6] at hw'
    have hz : (some 0).map (zv (zh_g1 g u)) = some (.int 0) := congrArg some (zv_i 0)
    rw [hz]
    refine hQ w' ⟨zh_g1 g u, ?_, hsc1⟩
    refine zSm_ok (g := zh_g1 g u) (t := zh_T t aT aL (zh_l1.set 0 (4 * c)) zh_l2) ?_ hw'
    intro a ha
    rw [zh_T_g hT hL (by omega), zh_W_g hT hL (by omega)]
    by_cases ea : aT = a
    · rw [if_pos ea, if_pos ea]
      exact Or.inl rfl
    · rw [if_neg ea, if_neg ea]
      by_cases eb : aL = a
      · rw [if_pos eb, if_pos eb]
        exact Or.inl rfl
      · rw [if_neg eb, if_neg eb]
        exact Or.inr (Or.inl ⟨rfl, zn_t_ok hnt a⟩)
  · cases hchk
end ZVA
/-! the walk through the tries -/
section ZVB
variable {P : Nat → (Nat → Nat) → Nat → Prop} {k c : Nat}
def zh_C (P : Nat → (Nat → Nat) → Nat → Prop) (c d : Nat) (τ : Nat → Nat) (b : Nat) : Prop := match d with
  | 0 => True
  | d' + 1 => τ d' < c ∧ ∀ (τ2 : Nat → Nat) (u2 : Nat), (∀ i, i < d' → τ2 i = τ i) → τ2 d' = τ d' + 1 → u2 ≤ b → P d' τ2 u2
theorem zh_sub (hk : 1 ≤ k)
    (htry : ∀ d x τ u, d < k → x < c → u ≤ 900000 → τ d = x → (∀ τ2 : Nat → Nat, (∀ i, i ≤ d → τ2 i = τ i) → τ2 (d + 1) = 0 → P (d + 1) τ2 (u + 1)) → P d τ u)
    (hpop : ∀ d x τ u, d < k → x < c → u ≤ 900000 → τ d = x → (d + 1 < k → τ (d + 1) = c) → (∀ τ2 : Nat → Nat, (∀ i, i < d → τ2 i = τ i) → τ2 d = x + 1 → P d τ2 (u + 1)) → P (d + 1) τ u)
    (hexit : ∀ τ u, u ≤ 900000 → τ 0 = c → P 0 τ u) : ∀ (e d : Nat), d + e = k → ∀ (y : Nat) (τ : Nat → Nat) (u : Nat), (e = 0 ∨ τ d + y = c) → u + zh_Fe c e y ≤ 900000 → zh_C P c d τ (u + zh_Fe c e y) → P d τ u := by
  intro e
  induction e with
  | zero =>
    intro d hd y τ u _ hb hC
    obtain ⟨d', rfl⟩ : ∃ d', d = d' + 1 := ⟨d - 1, by omega⟩
    obtain ⟨h1, h2⟩ := hC
    have hF : zh_Fe c 0 y = 1 := rfl
    rw [hF] at hb h2
    exact hpop d' (τ d') τ u (by omega) h1 (by omega) rfl (fun z => by omega) (fun τ2 a1 a2 => h2 τ2 (u + 1) a1 a2 (Nat.le_refl _))
  | succ e ih =>
    intro d hd y
    induction y with
    | zero =>
      intro τ u hc hb hC
      have hF : zh_Fe c (e + 1) 0 = 1 := by show 0 * _ + 1 = 1; omega
      rw [hF] at hb hC
      have hcd : τ d = c := by
        rcases hc with z | z
        · omega
        · omega
      cases d with
      | zero => exact hexit τ u (by omega) hcd
      | succ d' =>
        obtain ⟨h1, h2⟩ := hC
        exact hpop d' (τ d') τ u (by omega) h1 (by omega) rfl (fun _ => hcd) (fun τ2 a1 a2 => h2 τ2 (u + 1) a1 a2 (Nat.le_refl _))
    | succ y ihy =>
      intro τ u hc hb hC
      have hcd : τ d + (y + 1) = c := by
        rcases hc with z | z
        · omega
        · exact z
      have hF : zh_Fe c (e + 1) (y + 1) = 1 + zh_Fe c e c + zh_Fe c (e + 1) y := by
        show (y + 1) * (1 + zh_Fe c e c) + 1 = 1 + zh_Fe c e c + (y * (1 + zh_Fe c e c) + 1)
        rw [Nat.add_mul, Nat.one_mul]
        omega
      rw [hF] at hb hC
      refine htry d (τ d) τ u (by omega) (by omega) (by omega) rfl ?_
      intro τ2 a1 a2
      refine ih (d + 1) (by omega) c τ2 (u + 1) (Or.inr (by omega)) (by omega) ?_
      refine ⟨by rw [a1 d (Nat.le_refl _)]; omega, ?_⟩
      intro τ3 u3 b1 b2 b3
      have h3d : τ3 d = τ d + 1 := by rw [b2, a1 d (Nat.le_refl _)]
      refine ihy τ3 u3 (Or.inr (by omega)) (by omega) ?_
      cases d with
      | zero => trivial
      | succ d' =>
        obtain ⟨h1, h2⟩ := hC
        have e1 : τ3 d' = τ d' := by rw [b1 d' (by omega), a1 d' (by omega)]
        refine ⟨by rw [e1]; exact h1, ?_⟩
        intro τ4 u4 g1 g2 g3
        refine h2 τ4 u4 (fun i hi => ?_) (by rw [g2, e1]) (by omega)
        rw [g1 i hi, b1 i (by omega), a1 i (by omega)]
theorem zh_rem (hk : 1 ≤ k) (hc1 : 1 ≤ c) (hF : ∀ e, e ≤ k → zh_Fe c e c ≤ 60000)
    (htry : ∀ d x τ u, d < k → x < c → u ≤ 900000 → τ d = x → (∀ τ2 : Nat → Nat, (∀ i, i ≤ d → τ2 i = τ i) → τ2 (d + 1) = 0 → P (d + 1) τ2 (u + 1)) → P d τ u)
    (hpop : ∀ d x τ u, d < k → x < c → u ≤ 900000 → τ d = x → (d + 1 < k → τ (d + 1) = c) → (∀ τ2 : Nat → Nat, (∀ i, i < d → τ2 i = τ i) → τ2 d = x + 1 → P d τ2 (u + 1)) → P (d + 1) τ u)
    (hexit : ∀ τ u, u ≤ 900000 → τ 0 = c → P 0 τ u) : ∀ (d : Nat), d ≤ k → ∀ (y : Nat) (τ : Nat → Nat) (u : Nat), y ≤ c → τ d + y = c → (∀ i, i < d → τ i = 0) → u + (d + 1) * 60000 ≤ 900000 → P d τ u := by
  have hFy : ∀ e y, e ≤ k → y ≤ c → zh_Fe c e y ≤ 60000 := by
    intro e y he hy
    refine Nat.le_trans ?_ (hF e he)
    cases e with
    | zero => exact Nat.le_refl _
    | succ e =>
      show y * (1 + zh_Fe c e c) + 1 ≤ c * (1 + zh_Fe c e c) + 1
      have := Nat.mul_le_mul_right (1 + zh_Fe c e c) hy
      omega
  intro d
  induction d with
  | zero =>
    intro hd y τ u hy hτ h0 hb
    have := hFy k y (Nat.le_refl _) hy
    exact zh_sub hk htry hpop hexit k 0 (by omega) y τ u (Or.inr hτ) (by omega) trivial
  | succ d ih =>
    intro hd y τ u hy hτ h0 hb
    have hf := hFy (k - (d + 1)) y (by omega) hy
    refine zh_sub hk htry hpop hexit (k - (d + 1)) (d + 1) (by omega) y τ u (Or.inr hτ) (by omega) ?_
    refine ⟨by rw [h0 d (by omega)]; omega, ?_⟩
    intro τ2 u2 a1 a2 a3
    refine ih (by omega) (c - 1) τ2 u2 (by omega) (by rw [a2, h0 d (by omega)]; omega) (fun i hi => ?_) (by omega)
    rw [a1 i hi, h0 i (by omega)]
end ZVB
