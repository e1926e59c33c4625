/-! ===== words fail for both ===== -/
/-- the class's parts stand for the reference's node -/
def sc_R (P : pd_P) (S : rn_N) (x : Nat) : Prop := ∃ (Q : Nat → Prop) (pa pb : Nat → Nat), tr_ok P (rn_d S) (rn_h S) (rn_t S) Q pa pb ∧ (∀ y, Q y → y < rn_n S ∧ fl_prop (rn_k S y)) ∧ Q x ∧ pa x = 0 ∧ pb x = pd_m P
theorem sc_R_of {P : pd_P} {S : rn_N} {x : Nat} (h : cR P [] S [] (some x)) : sc_R P S x := by
  obtain ⟨Q, pa, pb, fp, e, h1, h2, h3, h4, h5, h6⟩ := h
  obtain ⟨g1, g2, g3⟩ := h6 x rfl
  have h3 : [] = [] ∧ fp = [] ∧ e = 0 := h3
  exact ⟨Q, pa, pb, h1, fun y hy => ⟨(h2 y hy).1, (h2 y hy).2.2.2.1⟩, g1, by rw [g2]; exact h3.2.2, g3⟩
theorem sc_R_ok {P : pd_P} {S : rn_N} {x : Nat} (h : sc_R P S x) : sc_ok P ∧ 0 < pd_m P := by
  obtain ⟨Q, pa, pb, h1, h2, h3, h4, h5⟩ := h
  obtain ⟨g1, g2⟩ := sc_tr h1 x h3
  have g3 := (h1 x h3).2.2.2.1
  rw [h4, h5] at g1 g2 g3
  exact ⟨⟨fun p q hp hT => g1 p q (Nat.zero_le _) hp hT, fun p s q hp hs h6 h7 => g2 p s q (Nat.zero_le _) hp (Nat.zero_le _) hs h6 h7⟩, g3⟩
/-- enough wild letters -/
def sc_Z (S : rn_N) : Prop := ∀ y, y < rn_n S → fl_prop (rn_k S y) → tr_S (rn_k S y) → nt_n (rn_t S (nq_l (rn_d S y))) + 1 ≤ mr_wd S
theorem fw_l_w {S : rn_N} : ∀ {k y : Nat}, fw_l S k = true → y < k → fw_s S y = true → rn_w S (nq_l (rn_d S y)) ≤ 6
  | 0, y, h, hy, hs => by omega
  | k + 1, y, h, hy, hs => by
    have h : (if fw_s S k = true then fw_l S k && decide (rn_w S (nq_l (rn_d S k)) ≤ 6) else fw_l S k) = true := h
    by_cases e : y = k
    · subst e
      rw [if_pos hs, Bool.and_eq_true] at h
      exact of_decide_eq_true h.2
    · refine fw_l_w (k := k) ?_ (by omega) hs
      by_cases c : fw_s S k = true
      · rw [if_pos c, Bool.and_eq_true] at h
        exact h.1
      · rw [if_neg c] at h
        exact h
theorem sc_Z_of {S : rn_N} (hi : rn_i S) (hq : rn_q S) (hg : rn_y S) : sc_Z S := by
  intro y hy hp hs
  obtain ⟨l1, l2, l3⟩ := ((hq y hy).2 hp).2.2.1 hs
  have hn := rn_nt hi hg _ (show nq_l (rn_d S y) < rn_n S by omega) l2
  unfold mr_wd
  by_cases c : fw S = true
  · rw [if_pos c]
    unfold fw at c
    rw [Bool.and_eq_true] at c
    have hw := fw_l_w c.2 hy (decide_eq_true (show rn_k S y = 61 ∨ rn_k S y = 32 ∨ rn_k S y = 33 ∨ rn_k S y = 11 from hs))
    omega
  · rw [if_neg c]
    omega
theorem sc_f_v {P : pd_P} {v v2 : Nat → Nat} {W : Nat → Nat → Prop} {n s : Nat} (h : ∀ i, i ≤ n → v i = v2 i) (g : sc_f P v W n s) : sc_f P v2 W n s := by
  have hw : ∀ k, k ≤ n → pd_w v k = pd_w v2 k := fun k hk => by
    unfold pd_w
    rw [h k hk]
  rcases g with ⟨k, a, b⟩ | ⟨k, i, a, b, c, ⟨u, d⟩, e⟩ | ⟨k, i, a, b, c⟩ | ⟨k, ⟨i, a, b, c⟩, d⟩
  · exact Or.inl ⟨k, a, by rw [← h n (Nat.le_refl _)]; exact b⟩
  · refine Or.inr (Or.inl ⟨k, i, a, b, fun j j1 j2 z => c j j1 j2 ((nt_a_w (fun x _ hx => hw x (by omega))).mpr z), ⟨u, (nz_s_w (fun x _ hx => hw x (by omega))).mp d⟩, fun u z => e u ((nz_s_w (fun x _ hx => hw x (by omega))).mpr z)⟩)
  · exact Or.inr (Or.inr (Or.inl ⟨k, i, a, b, (nt_a_w (fun x _ hx => hw x (by omega))).mp c⟩))
  · exact Or.inr (Or.inr (Or.inr ⟨k, ⟨i, a, b, fun u u1 u2 => by rw [← h u (by omega)]; exact c u u1 u2⟩, by rw [← h n (Nat.le_refl _)]; exact d⟩))
/-- no part has failed so far -/
def sc_no (P : pd_P) (v : Nat → Nat) (W : Nat → Nat → Prop) (n : Nat) : Prop := ∀ t, t < n → ∀ s, s < pd_m P → ¬ sc_f P v W t s
/-- a word fails for both, or for none -/
theorem sc_both {P : pd_P} {S : rn_N} {x n : Nat} {v : Nat → Nat} {W : Nat → Nat → Prop} {b : Bool} (hR : sc_R P S x) (hi : rn_i S) (hq : rn_q S) (hZ : sc_Z S) (hn : n < 60) (hn0 : 0 < n) (hv : ∀ i, i < n → v i < 64) (hJ : sc_J P v n 0 W) (hw : mr_w S x v n b) : b = true ↔ ∃ t s, t < n ∧ s < pd_m P ∧ sc_f P v W t s := by
  obtain ⟨SS, Fl, h1, h2, h3⟩ := hw
  obtain ⟨ho, hm⟩ := sc_R_ok hR
  obtain ⟨Q, pa, pb, g1, g2, g3, g4, g5⟩ := hR
  have hB := sc_B ho (by omega) hm hJ
  have main := pd_main (Z := n + mr_wd S) (cnt := rn_n S) (S := SS) (Fl := Fl) hv g1 g2 (fun y hy hs => ?_) h2 hB x g3
  · rw [sc_f_all, h3]
    rw [g4, g5] at main
    constructor
    · intro z
      obtain ⟨t, p, a1, a2, a3, a4⟩ := main.mpr ⟨0, hn0, (hB.1 0 hn0).mpr rfl, z⟩
      exact ⟨t, p, a1, a3, a4⟩
    · rintro ⟨t, p, a1, a3, a4⟩
      obtain ⟨i, i1, i2, i3⟩ := main.mp ⟨t, p, a1, Nat.zero_le _, a3, a4⟩
      rw [(hB.1 i i1).mp i2] at i3
      exact i3
  · obtain ⟨y1, y2⟩ := g2 y hy
    obtain ⟨l1, l2, l3⟩ := ((hq y y1).2 y2).2.2.1 hs
    refine ⟨ns_main h1 hi.1 hi.2.1 _ (show nq_l (rn_d S y) < rn_n S by omega) l2, ?_⟩
    have := hZ y y1 y2 hs
    omega
/-- with the next letter -/
theorem sc_agree {P : pd_P} {S : rn_N} {x n a : Nat} {v : Nat → Nat} {W V : Nat → Nat → Prop} {f b : Bool} (hR : sc_R P S x) (hi : rn_i S) (hq : rn_q S) (hZ : sc_Z S) (hn : n < 24) (hv : ∀ i, i < n → v i < 64) (ha : a < 64) (hW : 0 < n → sc_J P v n 0 W ∧ sc_no P v W n) (hV : sc_J P (mr_v v n a) (n + 1) 0 V) (hf : f = true ↔ ∃ s, s < pd_m P ∧ sc_f P (mr_v v n a) V n s) (hw : mr_w S x (mr_v v n a) (n + 1) b) : f = b ∧ (b = false → sc_no P (mr_v v n a) V (n + 1)) := by
  have ho := (sc_R_ok hR).1
  have hv2 : ∀ i, i < n + 1 → mr_v v n a i < 64 := fun i hi => by
    unfold mr_v
    split
    · exact ha
    · exact hv i (by omega)
  have both := sc_both hR hi hq hZ (show n + 1 < 60 by omega) (by omega) hv2 hV hw
  have old : ∀ t s, t < n → s < pd_m P → ¬ sc_f P (mr_v v n a) V t s := fun t s ht hs z => by
    obtain ⟨h1, h2⟩ := hW (by omega)
    have e : ∀ i, i < n → v i = mr_v v n a i := fun i hi => by
      unfold mr_v
      rw [if_neg (by omega)]
    have det := sc_det2 ho (by omega) (sc_J_v e h1) hV
    exact h2 t ht s hs (sc_f_v (fun i hi => (e i (by omega)).symm) (sc_f_c (fun i hi => (det s hs i (by omega)).symm) z))
  have key : f = true ↔ b = true := by
    rw [hf, both]
    constructor
    · rintro ⟨s, s1, s2⟩
      exact ⟨n, s, by omega, s1, s2⟩
    · rintro ⟨t, s, s1, s2, s3⟩
      by_cases e : t = n
      · subst e
        exact ⟨s, s2, s3⟩
      · exact (old t s (by omega) s2 s3).elim
  refine ⟨Bool.eq_iff_iff.mpr key, fun hb t ht s hs z => ?_⟩
  have := both.mpr ⟨t, s, ht, hs, z⟩
  rw [hb] at this
  cases this
