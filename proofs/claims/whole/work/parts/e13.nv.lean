/-! ===== places stand for states: repeated, counted; all nodes ===== -/
theorem np_times_s {lo hi : Nat} {U : np_A} {A : nt_A} (h : np_sim U A) : np_sim (np_times lo hi U) (nt_times lo hi A) := by
  obtain ⟨r1, L1, a1, a2, a3, a4, a5, a6, a7⟩ := h
  by_cases h0 : hi = 0
  · subst h0
    have e1 : np_times lo 0 U = (np_n U, np_M U, np_B U, fun _ => false, fun _ => false, true) := by unfold np_times; rw [if_pos rfl]
    have e2 : nt_times lo 0 A = (nt_n A, nt_E A, nt_M A, nt_H A, fun _ => false, fun _ => false, true) := by unfold nt_times; rw [if_pos rfl]
    rw [e1, e2]
    refine ⟨r1, fun _ => False, fun p h => h.elim, fun p _ h => ?_, fun p q h => h.elim, fun p h => h.elim, fun s l => ⟨fun h => ?_, fun h => ?_⟩, fun p h => h.elim, rfl⟩
    · have : false = true := h
      cases this
    · have : false = true := h.2.1
      cases this
    · obtain ⟨p, _, h, _⟩ := h
      have : false = true := h
      cases this
  · obtain ⟨t0, t1, t2, t3, t4⟩ := nt_times_p (A := A) (lo := lo) h0
    have e0 : np_n (np_times lo hi U) = np_n U * hi := by unfold np_times; rw [if_neg h0]; rfl
    have e1 : np_B (np_times lo hi U) = fun p q => if q / np_n U = p / np_n U then np_B U (p % np_n U) (q % np_n U) else if q / np_n U = p / np_n U + 1 then np_L U (p % np_n U) && np_F U (q % np_n U) else false := by unfold np_times; rw [if_neg h0]; rfl
    have e2 : np_M (np_times lo hi U) = fun p => np_M U (p % np_n U) := by unfold np_times; rw [if_neg h0]; rfl
    have e4 : np_F (np_times lo hi U) = fun p => decide (p < np_n U) && np_F U p := by unfold np_times; rw [if_neg h0]; rfl
    have e5 : np_L (np_times lo hi U) = fun p => np_L U (p % np_n U) && decide (np_need U lo ≤ p / np_n U + 1) := by unfold np_times; rw [if_neg h0]; rfl
    have e6 : np_e (np_times lo hi U) = (decide (lo = 0) || np_e U) := by unfold np_times; rw [if_neg h0]; rfl
    have hdm : ∀ x c, x < np_n U → (x + np_n U * c) / np_n U = c ∧ (x + np_n U * c) % np_n U = x := by
      intro x c hx
      rw [Nat.add_mul_div_left _ _ (by omega), Nat.div_eq_of_lt hx, Nat.zero_add, Nat.add_mul_mod_self_left, Nat.mod_eq_of_lt hx]
      exact ⟨rfl, rfl⟩
    have hdA : ∀ x c, x < nt_n A → (x + nt_n A * c) / nt_n A = c ∧ (x + nt_n A * c) % nt_n A = x := by
      intro x c hx
      rw [Nat.add_mul_div_left _ _ (by omega), Nat.div_eq_of_lt hx, Nat.zero_add, Nat.add_mul_mod_self_left, Nat.mod_eq_of_lt hx]
      exact ⟨rfl, rfl⟩
    have hlt : ∀ n x c, x < n → c < hi → x + n * c < n * hi := by
      intro n x c hx h
      have := Nat.mul_le_mul_left n (show c + 1 ≤ hi from h)
      rw [Nat.mul_add, Nat.mul_one] at this
      omega
    have hsp : ∀ t, t < np_n U * hi → t % np_n U < np_n U ∧ t / np_n U < hi ∧ t = t % np_n U + np_n U * (t / np_n U) := by
      intro t ht
      obtain ⟨d1, d2, d3⟩ := nt_div (n := np_n U) (m := hi) (z := t) (by rw [Nat.mul_comm]; exact ht)
      exact ⟨d3, d2, (Nat.mod_add_div t (np_n U)).symm⟩
    refine ⟨fun p => r1 (p % np_n U) + nt_n A * (p / np_n U), fun p => p < np_n U * hi ∧ L1 (p % np_n U), ?_, ?_, ?_, ?_, ?_, ?_, ?_⟩
    · rintro p ⟨h1, h2⟩
      rw [e0, t0]
      obtain ⟨c1, c2, c3⟩ := hsp p h1
      exact ⟨h1, hlt _ _ _ (a1 _ h2).2 c2⟩
    · intro p hp hf
      rw [e0] at hp
      rw [e4] at hf
      obtain ⟨f1, f2⟩ := nt_and_b.mp hf
      have f1 := of_decide_eq_true f1
      refine ⟨hp, ?_⟩
      rw [Nat.mod_eq_of_lt f1]
      exact a2 p f1 f2
    · rintro p q ⟨h1, h2⟩ hq hb
      rw [e0] at hq
      rw [e1] at hb
      dsimp only at hb
      obtain ⟨c1, c2, c3⟩ := hsp q hq
      refine ⟨hq, ?_⟩
      split at hb
      · exact a3 _ _ h2 c1 hb
      · split at hb
        · exact a2 _ c1 (nt_and_b.mp hb).2
        · cases hb
    · rintro p ⟨h1, h2⟩
      obtain ⟨d1, d2⟩ := hdA (r1 (p % np_n U)) (p / np_n U) (a1 _ h2).2
      obtain ⟨c1, c2, c3⟩ := hsp p h1
      have hl := t4 (r1 (p % np_n U) + nt_n A * (p / np_n U))
      have key : nt_L (nt_times lo hi A) (r1 (p % np_n U) + nt_n A * (p / np_n U)) = true ↔ nt_L A (r1 (p % np_n U)) = true ∧ nt_ls A lo ≤ p / np_n U + 1 := by
        constructor
        · intro g
          obtain ⟨c, y, y1, y2, y3, y4, y5⟩ := hl.mp ⟨by rw [t0]; exact hlt _ _ _ (a1 _ h2).2 c2, g⟩
          obtain ⟨g1, g2⟩ := na_dec (a := 0) (Nat.zero_le _) (by have := (a1 _ h2).2; omega) (Nat.zero_le _) (by omega) y3
          rw [g2, g1]
          exact ⟨y4.2, y5⟩
        · rintro ⟨g1, g2⟩
          exact (hl.mpr ⟨_, _, c2, (a1 _ h2).2, rfl, ⟨(a1 _ h2).2, g1⟩, g2⟩).2
      dsimp only
      rw [key, e5, nt_and_b, a4 _ h2]
      have : (decide (np_need U lo ≤ p / np_n U + 1) = true) ↔ nt_ls A lo ≤ p / np_n U + 1 := by
        rw [show (decide (np_need U lo ≤ p / np_n U + 1) = true) = (np_need U lo ≤ p / np_n U + 1) from propext ⟨of_decide_eq_true, decide_eq_true⟩]
        unfold np_need nt_ls
        rw [a7]
        clear hl key
        generalize p / np_n U = c
        by_cases he : nt_e A = true
        · rw [if_pos he, if_pos he]
          omega
        · rw [if_neg he, if_neg he]
          split <;> omega
      rw [this]
    · intro s l
      rw [t2, a5 s l]
      constructor
      · rintro ⟨p, p1, p2, p3, p4⟩
        refine ⟨p, ?_, ?_, ?_, ?_⟩
        · rw [e0]
          have := hlt _ p 0 p1 (by omega)
          rw [Nat.mul_zero, Nat.add_zero] at this
          exact this
        · rw [e4]; exact nt_and_b.mpr ⟨decide_eq_true p1, p2⟩
        · dsimp only
          rw [Nat.mod_eq_of_lt p1, Nat.div_eq_of_lt p1, Nat.mul_zero, Nat.add_zero]
          exact p3
        · rw [e2]
          dsimp only
          rw [Nat.mod_eq_of_lt p1]
          exact p4
      · rintro ⟨p, p1, p2, p3, p4⟩
        rw [e4] at p2
        obtain ⟨f1, f2⟩ := nt_and_b.mp p2
        have f1 := of_decide_eq_true f1
        rw [e2] at p4
        dsimp only at p3 p4
        rw [Nat.mod_eq_of_lt f1] at p3 p4
        rw [Nat.div_eq_of_lt f1, Nat.mul_zero, Nat.add_zero] at p3
        exact ⟨p, f1, f2, p3, p4⟩
    · rintro p ⟨h1, h2⟩ t l
      obtain ⟨c1, c2, c3⟩ := hsp p h1
      dsimp only
      rw [t3 _ _ t l c2 (a1 _ h2).2]
      constructor
      · rintro (⟨y, rfl, hy⟩ | ⟨hc, y, rfl, hf, hy⟩)
        · obtain ⟨q, q1, q2, q3, q4⟩ := (a6 _ h2 y l).mp hy
          obtain ⟨d1, d2⟩ := hdm q (p / np_n U) q1
          refine ⟨q + np_n U * (p / np_n U), by rw [e0]; exact hlt _ _ _ q1 c2, ?_, ?_, ?_⟩
          · rw [e1]; dsimp only; rw [d1, d2, if_pos rfl]; exact q2
          · rw [d1, d2, q3]
          · rw [e2]; dsimp only; rw [d2]; exact q4
        · obtain ⟨q, q1, q2, q3, q4⟩ := (a5 y l).mp hy
          obtain ⟨d1, d2⟩ := hdm q (p / np_n U + 1) q1
          refine ⟨q + np_n U * (p / np_n U + 1), by rw [e0]; exact hlt _ _ _ q1 hc, ?_, ?_, ?_⟩
          · rw [e1]; dsimp only; rw [d1, d2, if_neg (by omega), if_pos rfl]; exact nt_and_b.mpr ⟨(a4 _ h2).mpr hf.2, q2⟩
          · rw [d1, d2, q3]
          · rw [e2]; dsimp only; rw [d2]; exact q4
      · rintro ⟨q, q1, q2, q3, q4⟩
        rw [e0] at q1
        rw [e1] at q2
        rw [e2] at q4
        dsimp only at q2 q4
        obtain ⟨d1, d2, d3⟩ := hsp q q1
        by_cases g : q / np_n U = p / np_n U
        · rw [if_pos g] at q2
          refine Or.inl ⟨r1 (q % np_n U), by rw [← q3, g], (a6 _ h2 _ l).mpr ⟨_, d1, q2, rfl, q4⟩⟩
        · rw [if_neg g] at q2
          by_cases g2 : q / np_n U = p / np_n U + 1
          · rw [if_pos g2] at q2
            obtain ⟨f1, f2⟩ := nt_and_b.mp q2
            exact Or.inr ⟨by omega, r1 (q % np_n U), by rw [← q3, g2], ⟨(a1 _ h2).2, (a4 _ h2).mp f1⟩, (a5 _ l).mpr ⟨_, d1, f2, rfl, q4⟩⟩
          · rw [if_neg g2] at q2
            cases q2
    · rw [e6, t1, a7]
      unfold nt_ls
      cases nt_e A
      · rw [if_neg (by decide), Bool.or_false]
      · rw [if_pos rfl, Bool.or_true]
        rfl
theorem np_occ_s (n : Nat) (wb : Bool) (m : Nat → Bool) : np_sim (np_occ n wb m) (nt_count n wb m) := by
  obtain ⟨cD, cH, cF⟩ := nt_count_p (n := n) (wb := wb) (m := m)
  have hS := nt_count_S (n := n) (wb := wb)
  have eN : np_n (np_occ n wb m) = 1 + nt_S n wb := rfl
  have eM : ∀ p, np_M (np_occ n wb m) p = if p = 0 then m else if p % 2 = 1 then (fun v => ! m v) else m := fun _ => rfl
  have eB : ∀ p q, np_B (np_occ n wb m) p q = true ↔ 1 ≤ p ∧ (q = 1 + 2 * (p / 2) ∨ q = 2 + 2 * (p / 2)) := fun p q => by
    show (decide (1 ≤ p) && (decide (q = 1 + 2 * (p / 2)) || decide (q = 2 + 2 * (p / 2)))) = true ↔ _
    rw [nt_and_b, nt_or_b]
    exact ⟨fun h => ⟨of_decide_eq_true h.1, h.2.elim (fun z => Or.inl (of_decide_eq_true z)) (fun z => Or.inr (of_decide_eq_true z))⟩, fun h => ⟨decide_eq_true h.1, h.2.elim (fun z => Or.inl (decide_eq_true z)) (fun z => Or.inr (decide_eq_true z))⟩⟩
  have eF : ∀ p, np_F (np_occ n wb m) p = true ↔ p = 1 ∨ (p = 2 ∧ 0 < n) := fun p => by
    show (decide (p = 1) || decide (p = 2 ∧ 0 < n)) = true ↔ _
    rw [nt_or_b]
    exact ⟨fun h => h.elim (fun z => Or.inl (of_decide_eq_true z)) (fun z => Or.inr (of_decide_eq_true z)), fun h => h.elim (fun z => Or.inl (decide_eq_true z)) (fun z => Or.inr (decide_eq_true z))⟩
  have eL : ∀ p, np_L (np_occ n wb m) p = true ↔ 1 ≤ p ∧ p / 2 = n := fun p => by
    show (decide (1 ≤ p) && decide (p / 2 = n)) = true ↔ _
    rw [nt_and_b]
    exact ⟨fun h => ⟨of_decide_eq_true h.1, of_decide_eq_true h.2⟩, fun h => ⟨decide_eq_true h.1, decide_eq_true h.2⟩⟩
  refine ⟨fun p => p - 1, fun p => 1 ≤ p ∧ p < 1 + nt_S n wb, ?_, ?_, ?_, ?_, ?_, ?_, rfl⟩
  · rintro p ⟨h1, h2⟩
    exact ⟨h2, by show p - 1 < nt_S n wb; omega⟩
  · intro p hp hf
    rw [eN] at hp
    rw [eF] at hf
    exact ⟨by omega, hp⟩
  · intro p q hp hq hb
    rw [eN] at hq
    rw [eB] at hb
    exact ⟨by omega, hq⟩
  · rintro p ⟨h1, h2⟩
    rw [eL]
    have := cF (p - 1)
    constructor
    · rintro ⟨_, h3⟩
      exact (this.mpr ⟨by omega, by omega⟩).2
    · intro h3
      have := (this.mp ⟨by show p - 1 < nt_S n wb; omega, h3⟩).2
      exact ⟨h1, by omega⟩
  · intro s l
    rw [cH]
    constructor
    · rintro (⟨rfl, h1, h2⟩ | ⟨rfl, h1, h2⟩)
      · exact ⟨1, by rw [eN]; omega, (eF 1).mpr (Or.inl rfl), rfl, by rw [eM, if_neg (by omega), if_pos (by omega)]; exact h2⟩
      · have := (hS 0).2.mp (by omega)
        exact ⟨2, by rw [eN]; omega, (eF 2).mpr (Or.inr ⟨rfl, this⟩), rfl, by rw [eM, if_neg (by omega), if_neg (by omega)]; exact h2⟩
    · rintro ⟨p, p1, p2, p3, p4⟩
      rw [eN] at p1
      rw [eF] at p2
      rw [eM] at p4
      dsimp only at p3
      rcases p2 with rfl | ⟨rfl, p2⟩
      · rw [if_neg (by omega), if_pos (by omega)] at p4
        exact Or.inl ⟨by omega, by omega, p4⟩
      · rw [if_neg (by omega), if_neg (by omega)] at p4
        exact Or.inr ⟨by omega, by omega, p4⟩
  · rintro p ⟨h1, h2⟩ t l
    dsimp only
    rw [cD (p - 1) t l (by omega), show p - 1 + 1 = p by omega]
    constructor
    · rintro (⟨rfl, g1, g2⟩ | ⟨rfl, g1, g2⟩)
      · refine ⟨1 + 2 * (p / 2), by rw [eN]; omega, (eB _ _).mpr ⟨h1, Or.inl rfl⟩, by omega, ?_⟩
        rw [eM, if_neg (by omega), if_pos (by omega)]
        exact g2
      · refine ⟨2 + 2 * (p / 2), by rw [eN]; omega, (eB _ _).mpr ⟨h1, Or.inr rfl⟩, by omega, ?_⟩
        rw [eM, if_neg (by omega), if_neg (by omega)]
        exact g2
    · rintro ⟨q, q1, q2, q3, q4⟩
      rw [eN] at q1
      rw [eM] at q4
      obtain ⟨_, rfl | rfl⟩ := (eB p q).mp q2
      · rw [if_neg (by omega), if_pos (by omega)] at q4
        exact Or.inl ⟨by omega, by omega, q4⟩
      · rw [if_neg (by omega), if_neg (by omega)] at q4
        exact Or.inr ⟨by omega, by omega, q4⟩
/-! ===== all nodes ===== -/
def np_op (x : nq_N) (c ca : Nat → Bool) (U V : np_A) : np_A :=
  if nq_k x = 60 then np_cond c
  else if nq_k x = 23 then np_then U V
  else if nq_k x = 24 then np_fuse U V (np_fp U V (np_n U))
  else if nq_k x = 25 then np_or U V
  else if nq_k x = 26 then np_and U V
  else if nq_k x = 40 then np_star true U
  else if nq_k x = 41 then np_star false U
  else if nq_k x = 42 then np_times (nq_a x) (nq_b x) U
  else np_occ (nq_a x) (decide (nq_k x = 44)) ca
def np_sol (nd : Nat → nq_N) (hc : Nat → Nat → Bool) (cnt : Nat) (U : Nat → np_A) : Prop := ∀ n, n < cnt → nq_row (nq_k (nd n)) → U n = np_op (nd n) (hc n) (hc (nq_l (nd n))) (U (nq_l (nd n))) (U (nq_r (nd n)))
theorem np_fr_mem {U V : np_A} {p : Nat} : ∀ q x, x ∈ np_fr U V p q ↔ x.1 = p ∧ x.2 < q ∧ np_L U p = true ∧ np_F V x.2 = true
  | 0, x => by
    constructor
    · intro h
      cases h
    · rintro ⟨_, h, _⟩
      omega
  | q + 1, x => by
    show x ∈ np_fr U V p q ++ (if (np_L U p && np_F V q) = true then [(p, q)] else []) ↔ _
    rw [List.mem_append, np_fr_mem q x]
    constructor
    · rintro (⟨h1, h2, h3, h4⟩ | h)
      · exact ⟨h1, by omega, h3, h4⟩
      · split at h
        · rename_i hc
          have := List.mem_singleton.mp h
          subst this
          exact ⟨rfl, by omega, (nt_and_b.mp hc).1, (nt_and_b.mp hc).2⟩
        · cases h
    · rintro ⟨h1, h2, h3, h4⟩
      by_cases hq : x.2 < q
      · exact Or.inl ⟨h1, hq, h3, h4⟩
      · have e : x.2 = q := by omega
        right
        rw [e] at h4
        rw [if_pos (nt_and_b.mpr ⟨h3, h4⟩)]
        refine List.mem_singleton.mpr ?_
        rw [← h1, ← e]
theorem np_fp_mem {U V : np_A} : ∀ p x, x ∈ np_fp U V p ↔ x.1 < p ∧ x.2 < np_n V ∧ np_L U x.1 = true ∧ np_F V x.2 = true
  | 0, x => by
    constructor
    · intro h
      cases h
    · rintro ⟨h, _⟩
      omega
  | p + 1, x => by
    show x ∈ np_fp U V p ++ np_fr U V p (np_n V) ↔ _
    rw [List.mem_append, np_fp_mem p x, np_fr_mem]
    constructor
    · rintro (⟨h1, h2⟩ | ⟨h1, h2, h3, h4⟩)
      · exact ⟨by omega, h2⟩
      · rw [h1]
        exact ⟨by omega, h2, h3, h4⟩
    · rintro ⟨h1, h2, h3, h4⟩
      by_cases hp : x.1 < p
      · exact Or.inl ⟨hp, h2, h3, h4⟩
      · have e : x.1 = p := by omega
        rw [e] at h3
        exact Or.inr ⟨e, h2, h3, h4⟩
theorem np_fp_full {U V : np_A} : np_full U V (np_fp U V (np_n U)) := by
  constructor
  · intro k hk
    have hm : np_x (np_fp U V (np_n U)) k ∈ np_fp U V (np_n U) := by
      unfold np_x
      rw [List.getElem?_eq_getElem hk]
      exact List.getElem_mem hk
    exact (np_fp_mem _ _).mp hm
  · intro p q h1 h2 h3 h4
    obtain ⟨k, hk, e⟩ := List.getElem_of_mem ((np_fp_mem (U := U) (V := V) (np_n U) (p, q)).mpr ⟨h1, h2, h3, h4⟩)
    refine ⟨k, hk, ?_⟩
    unfold np_x
    rw [List.getElem?_eq_getElem hk, e]
    rfl
theorem np_main {nd : Nat → nq_N} {hc : Nat → Nat → Bool} {cnt : Nat} {T : Nat → nt_A} {U : Nat → np_A} (hT : nt_sol nd hc cnt T) (hU : np_sol nd hc cnt U) (hw : nq_wf nd cnt) : ∀ n, n < cnt → nq_row (nq_k (nd n)) → np_sim (U n) (T n) := by
  intro n
  induction n using Nat.strongRecOn with
  | ind n ih =>
    intro hn hr
    rw [hU n hn hr, hT n hn hr]
    have hw1 := hw n hn hr
    generalize hx : nd n = x at hr hw1 ⊢
    unfold np_op nt_op
    by_cases k60 : nq_k x = 60
    · rw [if_pos k60, if_pos k60]
      exact np_cond_s _
    rw [if_neg k60, if_neg k60]
    obtain ⟨⟨l1, l2⟩, r1, _⟩ := hw1 k60
    have hl := ih (nq_l x) l1 (by omega) l2
    have hrr : nq_two (nq_k x) → np_sim (U (nq_r x)) (T (nq_r x)) := fun h2 => ih (nq_r x) (r1 h2).1 (by have := (r1 h2).1; omega) (r1 h2).2
    by_cases k23 : nq_k x = 23
    · rw [if_pos k23, if_pos k23]
      exact np_then_s hl (hrr (by unfold nq_two; omega))
    rw [if_neg k23, if_neg k23]
    by_cases k24 : nq_k x = 24
    · rw [if_pos k24, if_pos k24]
      exact np_fuse_s hl (hrr (by unfold nq_two; omega)) np_fp_full
    rw [if_neg k24, if_neg k24]
    by_cases k25 : nq_k x = 25
    · rw [if_pos k25, if_pos k25]
      exact np_or_s hl (hrr (by unfold nq_two; omega))
    rw [if_neg k25, if_neg k25]
    by_cases k26 : nq_k x = 26
    · rw [if_pos k26, if_pos k26]
      exact np_and_s hl (hrr (by unfold nq_two; omega))
    rw [if_neg k26, if_neg k26]
    by_cases k40 : nq_k x = 40
    · rw [if_pos k40, if_pos k40]
      exact np_star_s hl
    rw [if_neg k40, if_neg k40]
    by_cases k41 : nq_k x = 41
    · rw [if_pos k41, if_pos k41]
      exact np_star_s hl
    rw [if_neg k41, if_neg k41]
    by_cases k42 : nq_k x = 42
    · rw [if_pos k42, if_pos k42]
      exact np_times_s hl
    rw [if_neg k42, if_neg k42]
    exact np_occ_s _ _ _
