/-! ===== sets that are found ===== -/
theorem sb_mono {g j k : Nat} (hg : g < 64) (hk : k < 2 ^ sb_c g) (h : j < k) : sb_v g j < sb_v g k := by
  have pw : (sb_l g).Pairwise (· < ·) := List.Pairwise.filter _ List.pairwise_lt_range
  have hl := sb_len hg
  have := List.pairwise_iff_getElem.mp pw j k (by omega) (by omega) h
  unfold sb_v
  rw [List.getElem?_eq_getElem (by omega), List.getElem?_eq_getElem (by omega)]
  exact this
def kc_code (b1 b2 b3 b4 b5 b6 : Bool) : Nat := b1.toNat + 2 * b2.toNat + 4 * b3.toNat + 8 * b4.toNat + 16 * b5.toNat + 32 * b6.toNat
theorem kc_code_b : ∀ (b1 b2 b3 b4 b5 b6 : Bool) (k : Fin 64), nb (Int64.ofNat (2 * kc_code b1 b2 b3 b4 b5 b6)) k.1 = ((decide (k.1 = 1) && b1) || (decide (k.1 = 2) && b2) || (decide (k.1 = 3) && b3) || (decide (k.1 = 4) && b4) || (decide (k.1 = 5) && b5) || (decide (k.1 = 6) && b6)) := by decide +kernel
theorem kc_code_l : ∀ b1 b2 b3 b4 b5 b6 : Bool, kc_code b1 b2 b3 b4 b5 b6 < 64 := by decide
theorem kc_code_e {x : Int64} (h : ∀ t, t < 64 → nb x t = true → 1 ≤ t ∧ t ≤ 6) : ∃ m, m < 64 ∧ x = Int64.ofNat (2 * m) := by
  refine ⟨kc_code (nb x 1) (nb x 2) (nb x 3) (nb x 4) (nb x 5) (nb x 6), kc_code_l _ _ _ _ _ _, nb_ext (fun k hk => ?_)⟩
  have e := kc_code_b (nb x 1) (nb x 2) (nb x 3) (nb x 4) (nb x 5) (nb x 6) ⟨k, hk⟩
  dsimp only at e
  rw [e]
  by_cases c : 1 ≤ k ∧ k ≤ 6
  · rcases (by omega : k = 1 ∨ k = 2 ∨ k = 3 ∨ k = 4 ∨ k = 5 ∨ k = 6) with z | z | z | z | z | z <;> subst z <;> simp
  · have hx : nb x k = false := by
      cases hb : nb x k with
      | false => rfl
      | true => exact (c (h k hk hb)).elim
    rw [hx, decide_eq_false (by omega), decide_eq_false (by omega), decide_eq_false (by omega), decide_eq_false (by omega), decide_eq_false (by omega), decide_eq_false (by omega)]
    rfl
/-- sets of states: the start alone, or states behind letters -/
def kc_ev (x : Int64) : Prop := x = Int64.ofNat 1 ∨ ∀ t, t < 64 → nb x t = true → 1 ≤ t ∧ t ≤ 6
theorem kc_few {ss : List Int64} (hn : ss.Nodup) (h : ∀ x, x ∈ ss → kc_ev x) : ss.length ≤ 65 := by
  have := hn.length_le_of_subset (l₂ := Int64.ofNat 1 :: (List.range 64).map (fun m => Int64.ofNat (2 * m))) (fun x hx => by
    rcases h x hx with e | e
    · rw [e]
      exact List.mem_cons_self
    · obtain ⟨m, hm, e2⟩ := kc_code_e e
      exact List.mem_cons_of_mem _ (List.mem_map.mpr ⟨m, List.mem_range.mpr hm, e2.symm⟩))
  rw [List.length_cons, List.length_map, List.length_range] at this
  exact this
/-- the set behind a letter -/
def kc_nx (A : nt_A) (g : Nat) (x : Int64) (v : Nat) (y : Int64) : Prop := ∀ t, t < 64 → (nb y t = true ↔ ∃ s, s < nt_n A + 1 ∧ nb x s = true ∧ nz_D A s t (some (v &&& g)) ∧ nz_l A t)
theorem kc_nx_ev {A : nt_A} {g v : Nat} {x y : Int64} (hA : nt_n A ≤ 6) (h : kc_nx A g x v y) : kc_ev y := Or.inr (fun t ht hb => by
  obtain ⟨s, _, _, h3, _⟩ := (h t ht).mp hb
  have b := (nz_D_b h3).2
  obtain ⟨u, hu, _⟩ := h3
  omega)
def kx_b (a i p k : Nat) : Prop := p < a ∨ (p = a ∧ k < i)
def kx_u (tb : Nat → Nat → Nat) (a v j : Nat) : Nat → Nat → Nat := fun p w => if p = a ∧ w = v then j else tb p w
theorem kx_u_at {tb : Nat → Nat → Nat} {a v j : Nat} : kx_u tb a v j a v = j := if_pos ⟨rfl, rfl⟩
theorem kx_u_no {tb : Nat → Nat → Nat} {a v j p w : Nat} (h : ¬ (p = a ∧ w = v)) : kx_u tb a v j p w = tb p w := if_neg h
/-- what was found up to letter i of set a -/
def kx (A : nt_A) (g : Nat) (ss : List Int64) (tb : Nat → Nat → Nat) (a i : Nat) : Prop := ss[0]? = some (Int64.ofNat 1) ∧ ss.Nodup ∧ (∀ x, x ∈ ss → kc_ev x) ∧ a ≤ ss.length ∧ (∀ p k, kx_b a i p k → k < 2 ^ sb_c g → tb p (sb_v g k) < ss.length ∧ ∃ x y, ss[p]? = some x ∧ ss[tb p (sb_v g k)]? = some y ∧ kc_nx A g x (sb_v g k) y) ∧ ∀ c, 0 < c → c < ss.length → ∃ p k, kx_b a i p k ∧ k < 2 ^ sb_c g ∧ p < c ∧ tb p (sb_v g k) = c ∧ ∀ p2 k2, kx_b p k p2 k2 → k2 < 2 ^ sb_c g → tb p2 (sb_v g k2) < c
theorem kx_0 {A : nt_A} {g : Nat} {tb : Nat → Nat → Nat} : kx A g [Int64.ofNat 1] tb 0 0 := by
  refine ⟨rfl, by simp, fun x hx => Or.inl (List.mem_singleton.mp hx), Nat.zero_le _, fun p k h => ?_, fun c h1 h2 => ?_⟩
  · unfold kx_b at h
    omega
  · have h2 : c < 1 := h2
    omega
theorem kx_b_s {a i p k : Nat} (h : kx_b a (i + 1) p k) : kx_b a i p k ∨ (p = a ∧ k = i) := by
  unfold kx_b at *
  omega
theorem kx_keep {g a i j p k : Nat} {tb : Nat → Nat → Nat} (hg : g < 64) (hi : i < 2 ^ sb_c g) (hk : k < 2 ^ sb_c g) (h : kx_b a i p k) : kx_u tb a (sb_v g i) j p (sb_v g k) = tb p (sb_v g k) := by
  refine kx_u_no (fun z => ?_)
  have := sb_inj hg hk hi z.2
  unfold kx_b at h
  omega
theorem kx_b_t {a i p k p2 k2 : Nat} (h : kx_b a i p k) (h2 : kx_b p k p2 k2) : kx_b a i p2 k2 := by
  unfold kx_b at *
  omega
theorem kx_old {A : nt_A} {g a i j : Nat} {ss : List Int64} {tb : Nat → Nat → Nat} {x y : Int64} (hg : g < 64) (h : kx A g ss tb a i) (hi : i < 2 ^ sb_c g) (hx : ss[a]? = some x) (hy : ss[j]? = some y) (hn : kc_nx A g x (sb_v g i) y) : kx A g ss (kx_u tb a (sb_v g i) j) a (i + 1) := by
  obtain ⟨h1, h2, h3, h4, h5, h6⟩ := h
  have hj := (List.getElem?_eq_some_iff.mp hy).1
  refine ⟨h1, h2, h3, h4, fun p k hb hk => ?_, fun c c1 c2 => ?_⟩
  · rcases kx_b_s hb with z | ⟨z1, z2⟩
    · rw [kx_keep hg hi hk z]
      exact h5 p k z hk
    · subst z1
      subst z2
      rw [kx_u_at]
      exact ⟨hj, x, y, hx, hy, hn⟩
  · obtain ⟨p, k, b1, b2, b3, b4, b5⟩ := h6 c c1 c2
    refine ⟨p, k, ?_, b2, b3, by rw [kx_keep hg hi b2 b1]; exact b4, fun p2 k2 d1 d2 => ?_⟩
    · unfold kx_b at *
      omega
    · rw [kx_keep hg hi d2 (kx_b_t b1 d1)]
      exact b5 p2 k2 d1 d2
theorem kx_new {A : nt_A} {g a i : Nat} {ss : List Int64} {tb : Nat → Nat → Nat} {x y : Int64} (hg : g < 64) (hA : nt_n A ≤ 6) (h : kx A g ss tb a i) (hi : i < 2 ^ sb_c g) (hx : ss[a]? = some x) (hy : ¬ y ∈ ss) (hn : kc_nx A g x (sb_v g i) y) : kx A g (ss ++ [y]) (kx_u tb a (sb_v g i) ss.length) a (i + 1) := by
  obtain ⟨h1, h2, h3, h4, h5, h6⟩ := h
  have ha := (List.getElem?_eq_some_iff.mp hx).1
  have hlen : (ss ++ [y]).length = ss.length + 1 := List.length_append
  have ap : ∀ (j : Nat) (w : Int64), ss[j]? = some w → (ss ++ [y])[j]? = some w := fun j w e => by
    rw [List.getElem?_append_left (List.getElem?_eq_some_iff.mp e).1]
    exact e
  have al : (ss ++ [y])[ss.length]? = some y := by
    rw [List.getElem?_append_right (Nat.le_refl _), Nat.sub_self]
    rfl
  refine ⟨ap _ _ h1, ?_, fun w hw => ?_, by omega, fun p k hb hk => ?_, fun c c1 c2 => ?_⟩
  · rw [List.nodup_append]
    exact ⟨h2, by simp, fun a ha b hb e => hy (by rw [← List.mem_singleton.mp hb, ← e]; exact ha)⟩
  · rcases List.mem_append.mp hw with z | z
    · exact h3 w z
    · rw [List.mem_singleton.mp z]
      exact kc_nx_ev hA hn
  · rcases kx_b_s hb with z | ⟨z1, z2⟩
    · rw [kx_keep hg hi hk z]
      obtain ⟨d1, d2, d3, d4, d5, d6⟩ := h5 p k z hk
      exact ⟨by omega, d2, d3, ap _ _ d4, ap _ _ d5, d6⟩
    · subst z1
      subst z2
      rw [kx_u_at]
      exact ⟨by omega, x, y, ap _ _ hx, al, hn⟩
  · by_cases c3 : c = ss.length
    · subst c3
      refine ⟨a, i, Or.inr ⟨rfl, Nat.lt_succ_self _⟩, hi, ha, kx_u_at, fun p2 k2 d1 d2 => ?_⟩
      rw [kx_keep hg hi d2 d1]
      exact (h5 p2 k2 d1 d2).1
    · obtain ⟨p, k, b1, b2, b3, b4, b5⟩ := h6 c c1 (by omega)
      refine ⟨p, k, ?_, b2, b3, by rw [kx_keep hg hi b2 b1]; exact b4, fun p2 k2 d1 d2 => ?_⟩
      · unfold kx_b at *
        omega
      · rw [kx_keep hg hi d2 (kx_b_t b1 d1)]
        exact b5 p2 k2 d1 d2
theorem kx_row {A : nt_A} {g a i : Nat} {ss : List Int64} {tb : Nat → Nat → Nat} (h : kx A g ss tb a i) (hi : i = 2 ^ sb_c g) (ha : a < ss.length) : kx A g ss tb (a + 1) 0 := by
  obtain ⟨h1, h2, h3, h4, h5, h6⟩ := h
  refine ⟨h1, h2, h3, by omega, fun p k hb hk => h5 p k ?_ hk, fun c c1 c2 => ?_⟩
  · unfold kx_b at *
    omega
  · obtain ⟨p, k, b1, b2⟩ := h6 c c1 c2
    refine ⟨p, k, ?_, b2⟩
    unfold kx_b at *
    omega
/-- the moves of sets -/
def kc_mv (tb : Nat → Nat → Nat) (g : Nat) : Nat → Nat → Nat := fun c v => tb c (v &&& g)
theorem kc_and {g v : Nat} : (v &&& g) &&& g = v &&& g := by rw [Nat.and_assoc, Nat.and_self]
theorem kx_fin {A : nt_A} {g : Nat} {ss : List Int64} {tb : Nat → Nat → Nat} (hg : g < 64) (h : kx A g ss tb ss.length 0) : df_ok ss.length (kc_mv tb g) ∧ df_bf ss.length (kc_mv tb g) ∧ ∀ c v, c < ss.length → v < 64 → ∃ x y, ss[c]? = some x ∧ ss[kc_mv tb g c v]? = some y ∧ kc_nx A g x v y := by
  obtain ⟨h1, h2, h3, h4, h5, h6⟩ := h
  have h0 := (List.getElem?_eq_some_iff.mp h1).1
  have get : ∀ v, v < 64 → ∃ k, k < 2 ^ sb_c g ∧ sb_v g k = v &&& g := fun v hv => sb_ex hg (Nat.lt_of_le_of_lt Nat.and_le_left hv) kc_and
  refine ⟨⟨h0, fun c hc v hv => ?_⟩, fun c c1 c2 => ?_, fun c v hc hv => ?_⟩
  · obtain ⟨k, k1, k2⟩ := get v hv
    show tb c (v &&& g) < _
    rw [← k2]
    exact (h5 c k (Or.inl hc) k1).1
  · obtain ⟨p, k, b1, b2, b3, b4, b5⟩ := h6 c c1 c2
    obtain ⟨m1, m2⟩ := sb_mem hg b2
    refine ⟨p, sb_v g k, b3, m1, by show tb p (sb_v g k &&& g) = c; rw [m2]; exact b4, fun p2 v2 d1 d2 => ?_⟩
    obtain ⟨k2, e1, e2⟩ := get v2 d2
    show tb p2 (v2 &&& g) < c
    rw [← e2]
    refine b5 p2 k2 ?_ e1
    rcases d1 with d | ⟨d, d3⟩
    · exact Or.inl d
    · refine Or.inr ⟨d, ?_⟩
      have hle : v2 &&& g ≤ v2 := Nat.and_le_left
      by_cases c3 : k2 < k
      · exact c3
      · exfalso
        by_cases c4 : k2 = k
        · subst c4
          omega
        · have := sb_mono hg e1 (show k < k2 by omega)
          omega
  · obtain ⟨k, k1, k2⟩ := get v hv
    obtain ⟨d1, x, y, d2, d3, d4⟩ := h5 c k (Or.inl hc) k1
    refine ⟨x, y, d2, by show ss[tb c (v &&& g)]? = _; rw [← k2]; exact d3, ?_⟩
    unfold kc_nx at d4 ⊢
    rw [k2, kc_and] at d4
    exact d4
