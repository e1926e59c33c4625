/-! ===== places of light rows ===== -/
theorem kw_mx (b : Nat) : ww_mx b = if 1 < b then b else 1 := by
  unfold ww_mx
  split <;> split <;> omega
/-- the places of light rows are few, and of few colours -/
theorem nc_all {S : rn_N} {U : Nat → np_A} (hi : rn_i S) (hg : rn_y S) (hU : np_sol (rn_d S) (rn_h S) (rn_n S) U) : ∀ x, x < rn_n S → nq_row (rn_k S x) → rn_w S x ≤ 6 → nc_ok (U x) (rn_w S x) ∧ cn_ok (U x) (rn_w S x) := by
  intro x
  induction x using Nat.strongRecOn with
  | ind x ih =>
    intro hx hr hw6
    have hr' : nq_row (nq_k (rn_d S x)) := hr
    obtain ⟨g1, g2, g3⟩ := hg x hx hr'
    have hop := hU x hx hr'
    unfold np_op at hop
    by_cases c60 : nq_k (rn_d S x) = 60
    · rw [if_pos c60] at hop
      rw [hop, g2 c60]
      exact ⟨nc_cond _, cn_cond_ok _⟩
    rw [if_neg c60] at hop
    obtain ⟨⟨w1, w1r⟩, w2, w3, w4, w5⟩ := hi.2.1 x hx hr' c60
    have g3 := g3 c60 w1 (fun z => (w2 z).1)
    have p1 := rn_w_1 hi hg _ (show nq_l (rn_d S x) < rn_n S by omega) w1r
    have i1 := ih _ w1 (by omega) w1r
    unfold rn_we at g3
    rw [if_neg c60] at g3
    have hr2 := hr'
    unfold nq_row at hr2
    have two : nq_two (nq_k (rn_d S x)) → 1 ≤ rn_w S (nq_r (rn_d S x)) ∧ (rn_w S (nq_r (rn_d S x)) ≤ 6 → nc_ok (U (nq_r (rn_d S x))) (rn_w S (nq_r (rn_d S x))) ∧ cn_ok (U (nq_r (rn_d S x))) (rn_w S (nq_r (rn_d S x)))) := fun z => by
      obtain ⟨z1, z2⟩ := w2 z
      exact ⟨rn_w_1 hi hg _ (by omega) z2, ih _ z1 (by omega) z2⟩
    by_cases c23 : nq_k (rn_d S x) = 23
    · obtain ⟨p2, i2⟩ := two (by unfold nq_two; omega)
      rw [if_pos c23] at hop
      rw [if_neg (by omega), if_pos (by omega)] at g3
      have e : rn_w S x = rn_w S (nq_l (rn_d S x)) + rn_w S (nq_r (rn_d S x)) := by omega
      rw [hop, e]
      obtain ⟨a1, a2⟩ := i1 (by omega)
      obtain ⟨b1, b2⟩ := i2 (by omega)
      exact ⟨nc_then a1 b1, cn_then_ok p1 p2 (by omega) a2 b2⟩
    rw [if_neg c23] at hop
    by_cases c24 : nq_k (rn_d S x) = 24
    · obtain ⟨p2, i2⟩ := two (by unfold nq_two; omega)
      rw [if_pos c24] at hop
      rw [if_neg (by omega), if_pos (by omega)] at g3
      have e : rn_w S x = rn_w S (nq_l (rn_d S x)) + rn_w S (nq_r (rn_d S x)) := by omega
      rw [hop, e]
      obtain ⟨a1, a2⟩ := i1 (by omega)
      obtain ⟨b1, b2⟩ := i2 (by omega)
      exact ⟨nc_fuse a1 b1 (fun k hk => by
        obtain ⟨q1, q2, q3, q4⟩ := np_fp_full.1 k hk
        exact ⟨q1, q2, q4⟩), cn_fuse_ok p1 p2 (by omega) a2 b2⟩
    rw [if_neg c24] at hop
    by_cases c25 : nq_k (rn_d S x) = 25
    · obtain ⟨p2, i2⟩ := two (by unfold nq_two; omega)
      rw [if_pos c25] at hop
      rw [if_neg (by omega), if_pos (by omega)] at g3
      have e : rn_w S x = rn_w S (nq_l (rn_d S x)) + rn_w S (nq_r (rn_d S x)) := by omega
      rw [hop, e]
      obtain ⟨a1, a2⟩ := i1 (by omega)
      obtain ⟨b1, b2⟩ := i2 (by omega)
      exact ⟨nc_or a1 b1, cn_or_ok p1 p2 (by omega) a2 b2⟩
    rw [if_neg c25] at hop
    by_cases c26 : nq_k (rn_d S x) = 26
    · obtain ⟨p2, i2⟩ := two (by unfold nq_two; omega)
      rw [if_pos c26] at hop
      rw [if_pos c26] at g3
      have em : (rn_w S (nq_l (rn_d S x)) + 1) * (rn_w S (nq_r (rn_d S x)) + 1) = rn_w S (nq_l (rn_d S x)) * rn_w S (nq_r (rn_d S x)) + rn_w S (nq_l (rn_d S x)) + rn_w S (nq_r (rn_d S x)) + 1 := by
        rw [Nat.add_mul, Nat.mul_add, Nat.one_mul, Nat.mul_one]
        omega
      have e : rn_w S x = (rn_w S (nq_l (rn_d S x)) + 1) * (rn_w S (nq_r (rn_d S x)) + 1) := by omega
      rw [hop, e]
      generalize rn_w S (nq_l (rn_d S x)) * rn_w S (nq_r (rn_d S x)) = m at em
      obtain ⟨a1, a2⟩ := i1 (by omega)
      obtain ⟨b1, b2⟩ := i2 (by omega)
      exact ⟨nc_le (nc_and a1 b1) (Nat.mul_le_mul (Nat.le_succ _) (Nat.le_succ _)), cn_and_ok p1 p2 (by omega) a2 b2⟩
    rw [if_neg c26] at hop g3
    rw [if_neg (by omega)] at g3
    by_cases c40 : nq_k (rn_d S x) = 40
    · rw [if_pos c40] at hop
      rw [if_neg (by omega), if_neg (by omega), if_neg (by omega)] at g3
      rw [hop, g3]
      obtain ⟨a1, a2⟩ := i1 (by omega)
      exact ⟨nc_star a1, cn_star_ok a2⟩
    rw [if_neg c40] at hop
    by_cases c41 : nq_k (rn_d S x) = 41
    · rw [if_pos c41] at hop
      rw [if_neg (by omega), if_neg (by omega), if_neg (by omega)] at g3
      rw [hop, g3]
      obtain ⟨a1, a2⟩ := i1 (by omega)
      exact ⟨nc_star a1, cn_star_ok a2⟩
    rw [if_neg c41] at hop
    by_cases c42 : nq_k (rn_d S x) = 42
    · rw [if_pos c42] at hop g3
      have hm := kw_mx (nq_b (rn_d S x))
      have h1 : 1 ≤ ww_mx (nq_b (rn_d S x)) := by
        unfold ww_mx
        split <;> omega
      have hle : rn_w S (nq_l (rn_d S x)) ≤ ww_mx (nq_b (rn_d S x)) * rn_w S (nq_l (rn_d S x)) := Nat.le_mul_of_pos_left _ h1
      have e : rn_w S x = ww_mx (nq_b (rn_d S x)) * rn_w S (nq_l (rn_d S x)) := by omega
      rw [hop, e]
      obtain ⟨a1, a2⟩ := i1 (by omega)
      exact ⟨by rw [hm]; exact nc_times a1, cn_times_ok p1 hm (by omega) a2⟩
    rw [if_neg c42] at hop g3
    by_cases c43 : nq_k (rn_d S x) = 43
    · rw [if_pos c43] at g3
      have e : rn_w S x = nt_S (nq_a (rn_d S x)) (decide (nq_k (rn_d S x) = 44)) := by
        rw [g3, c43]
        unfold nt_S
        rw [if_neg (by decide)]
        rfl
      have := w5 c43
      rw [hop, e]
      exact ⟨nc_occ (by omega), cn_occ_ok (by omega) (by omega)⟩
    · have c44 : nq_k (rn_d S x) = 44 := by omega
      rw [if_neg c43, if_pos c44] at g3
      have e : rn_w S x = nt_S (nq_a (rn_d S x)) (decide (nq_k (rn_d S x) = 44)) := by
        rw [g3, c44]
        unfold nt_S
        rw [if_pos (by decide)]
      rw [hop, e]
      exact ⟨nc_occ (by omega), cn_occ_ok (by omega) (by omega)⟩
