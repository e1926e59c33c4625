/-! ===== parts of a property, letter by letter ===== -/
/-- part p feeds word q -/
def sc_T (P : pd_P) (p q : Nat) : Prop := (q = p + 1 ∧ ((2 ≤ pd_k P p ∧ pd_k P p ≤ 5) ∨ pd_k P p = 7 ∨ pd_k P p = 8 ∨ pd_k P p = 10)) ∨ (pd_k P p = 10 ∧ q = pd_l P p)
/-- what part p has put into its word after n letters -/
def sc_c (P : pd_P) (v : Nat → Nat) (W : Nat → Nat → Prop) (p n u : Nat) : Prop :=
  (pd_k P p = 2 ∧ u < n ∧ ∃ i, i ≤ u ∧ W p i ∧ nt_a (pd_a P p) (pd_w v) i (u + 1)) ∨
  (pd_k P p = 3 ∧ ((u < n ∧ W p u ∧ nt_a (pd_a P p) (pd_w v) u u) ∨ (u ≤ n ∧ ∃ i, i < u ∧ W p i ∧ nt_a (pd_a P p) (pd_w v) i u))) ∨
  (pd_k P p = 4 ∧ u < n ∧ W p u ∧ pd_c P p (v u) = true) ∨
  (pd_k P p = 5 ∧ u < n ∧ ∃ i, i ≤ u ∧ W p i) ∨
  (pd_k P p = 7 ∧ ∃ i, i < n ∧ W p i ∧ u = i + pd_t P p) ∨
  (pd_k P p = 8 ∧ u < n ∧ ∃ i, i ≤ u ∧ W p i ∧ ∀ x, i ≤ x → x ≤ u → pd_c P p (v x) = false) ∨
  (pd_k P p = 10 ∧ u < n ∧ W p u)
theorem sc_c_c {P : pd_P} {v : Nat → Nat} {W V : Nat → Nat → Prop} {p n u : Nat} (h : ∀ i, i < n → (W p i ↔ V p i)) : sc_c P v W p n u → sc_c P v V p n u := by
  rintro (⟨k, a, i, b, c, d⟩ | ⟨k, ⟨a, b, c⟩ | ⟨a, i, b, c, d⟩⟩ | ⟨k, a, b, c⟩ | ⟨k, a, i, b, c⟩ | ⟨k, i, a, b, c⟩ | ⟨k, a, i, b, c, d⟩ | ⟨k, a, b⟩)
  · exact Or.inl ⟨k, a, i, b, (h i (by omega)).mp c, d⟩
  · exact Or.inr (Or.inl ⟨k, Or.inl ⟨a, (h u (by omega)).mp b, c⟩⟩)
  · exact Or.inr (Or.inl ⟨k, Or.inr ⟨a, i, b, (h i (by omega)).mp c, d⟩⟩)
  · exact Or.inr (Or.inr (Or.inl ⟨k, a, (h u (by omega)).mp b, c⟩))
  · exact Or.inr (Or.inr (Or.inr (Or.inl ⟨k, a, i, b, (h i (by omega)).mp c⟩)))
  · exact Or.inr (Or.inr (Or.inr (Or.inr (Or.inl ⟨k, i, a, (h i (by omega)).mp b, c⟩))))
  · exact Or.inr (Or.inr (Or.inr (Or.inr (Or.inr (Or.inl ⟨k, a, i, b, (h i (by omega)).mp c, d⟩)))))
  · exact Or.inr (Or.inr (Or.inr (Or.inr (Or.inr (Or.inr ⟨k, a, (h u (by omega)).mp b⟩)))))
/-- words by what feeds them; parts below p have one letter more -/
def sc_J (P : pd_P) (v : Nat → Nat) (N p : Nat) (W : Nat → Nat → Prop) : Prop := ∀ q, q < pd_m P → ∀ u, u < 64 → (W q u ↔ (q = 0 ∧ u = 0) ∨ ∃ s, s < pd_m P ∧ sc_T P s q ∧ sc_c P v W s (if s < p then N + 1 else N) u)
def sc_ok (P : pd_P) : Prop := (∀ p q, p < pd_m P → sc_T P p q → p < q ∧ q < pd_m P) ∧ ∀ p s q, p < pd_m P → s < pd_m P → sc_T P p q → sc_T P s q → p = s
theorem sc_step {P : pd_P} {v : Nat → Nat} {N p : Nat} {W V : Nat → Nat → Prop} {add : Nat → Prop} (ho : sc_ok P) (hN : N < 64) (hJ : sc_J P v N p W) (hp : p < pd_m P) (ha : ∀ u, add u → N ≤ u) (hc : ∀ u, u < 64 → (sc_c P v W p (N + 1) u ↔ sc_c P v W p N u ∨ (add u ∧ ∃ q, sc_T P p q))) (hV : ∀ q u, q < pd_m P → u < 64 → (V q u ↔ W q u ∨ (sc_T P p q ∧ add u))) : sc_J P v N (p + 1) V := by
  intro q hq u hu
  rw [hV q u hq hu, hJ q hq u hu]
  have hT : ∀ q, sc_T P p q → p < q := fun q z => (ho.1 p q hp z).1
  have e1 : ∀ s, s < p → s < pd_m P → ∀ i, i < 64 → (W s i ↔ V s i) := fun s hs hsm i hi => by
    rw [hV s i hsm hi]
    exact ⟨Or.inl, fun z => z.elim id (fun y => by have := hT s y.1; omega)⟩
  have e2 : ∀ i, i < 64 → (W p i ↔ V p i) := fun i hi => by
    rw [hV p i hp hi]
    exact ⟨Or.inl, fun z => z.elim id (fun y => by have := hT p y.1; omega)⟩
  have e3 : ∀ s, s < pd_m P → ∀ i, i < N → (W s i ↔ V s i) := fun s hsm i hi => by
    rw [hV s i hsm (by omega)]
    exact ⟨Or.inl, fun z => z.elim id (fun y => by have := ha i y.2; omega)⟩
  constructor
  · rintro ((z | ⟨s, s1, s2, s3⟩) | ⟨z1, z2⟩)
    · exact Or.inl z
    · refine Or.inr ⟨s, s1, s2, ?_⟩
      by_cases c1 : s < p
      · rw [if_pos c1] at s3
        rw [if_pos (by omega)]
        exact sc_c_c (fun i hi => e1 s c1 s1 i (by omega)) s3
      · rw [if_neg c1] at s3
        by_cases c2 : s = p
        · subst c2
          rw [if_pos (by omega)]
          exact sc_c_c (fun i hi => e2 i (by omega)) ((hc u hu).mpr (Or.inl s3))
        · rw [if_neg (by omega)]
          exact sc_c_c (fun i hi => e3 s s1 i hi) s3
    · refine Or.inr ⟨p, hp, z1, ?_⟩
      rw [if_pos (by omega)]
      exact sc_c_c (fun i hi => e2 i (by omega)) ((hc u hu).mpr (Or.inr ⟨z2, q, z1⟩))
  · rintro (z | ⟨s, s1, s2, s3⟩)
    · exact Or.inl (Or.inl z)
    · by_cases c1 : s < p
      · rw [if_pos (by omega)] at s3
        refine Or.inl (Or.inr ⟨s, s1, s2, ?_⟩)
        rw [if_pos c1]
        exact sc_c_c (fun i hi => (e1 s c1 s1 i (by omega)).symm) s3
      · by_cases c2 : s = p
        · subst c2
          rw [if_pos (by omega)] at s3
          rcases (hc u hu).mp (sc_c_c (fun i hi => (e2 i (by omega)).symm) s3) with y | y
          · refine Or.inl (Or.inr ⟨s, s1, s2, ?_⟩)
            rw [if_neg c1]
            exact y
          · exact Or.inr ⟨s2, y.1⟩
        · rw [if_neg (by omega)] at s3
          refine Or.inl (Or.inr ⟨s, s1, s2, ?_⟩)
          rw [if_neg c1]
          exact sc_c_c (fun i hi => (e3 s s1 i hi).symm) s3
/-- all parts done: the next letter -/
theorem sc_next {P : pd_P} {v : Nat → Nat} {N : Nat} {W : Nat → Nat → Prop} (h : sc_J P v N (pd_m P) W) : sc_J P v (N + 1) 0 W := by
  intro q hq u hu
  rw [h q hq u hu]
  constructor
  · rintro (z | ⟨s, s1, s2, s3⟩)
    · exact Or.inl z
    · rw [if_pos s1] at s3
      exact Or.inr ⟨s, s1, s2, by rw [if_neg (by omega)]; exact s3⟩
  · rintro (z | ⟨s, s1, s2, s3⟩)
    · exact Or.inl z
    · rw [if_neg (by omega)] at s3
      exact Or.inr ⟨s, s1, s2, by rw [if_pos s1]; exact s3⟩
theorem sc_0 {P : pd_P} {v : Nat → Nat} {W : Nat → Nat → Prop} (h : ∀ q, q < pd_m P → ∀ u, u < 64 → (W q u ↔ q = 0 ∧ u = 0)) : sc_J P v 0 0 W := by
  intro q hq u hu
  rw [h q hq u hu]
  refine ⟨Or.inl, fun z => z.elim id ?_⟩
  rintro ⟨s, s1, s2, s3⟩
  rw [if_neg (by omega)] at s3
  rcases s3 with ⟨k, a, i, b, c, d⟩ | ⟨k, ⟨a, b, c⟩ | ⟨a, i, b, c, d⟩⟩ | ⟨k, a, b, c⟩ | ⟨k, a, i, b, c⟩ | ⟨k, i, a, b, c⟩ | ⟨k, a, i, b, c, d⟩ | ⟨k, a, b⟩
  all_goals omega
/-- the words are where the parts begin -/
theorem sc_B {P : pd_P} {v : Nat → Nat} {N : Nat} {W : Nat → Nat → Prop} (ho : sc_ok P) (hN : N < 64) (hm : 0 < pd_m P) (h : sc_J P v N 0 W) : pd_B P v N W := by
  have key : ∀ p q t, p < pd_m P → t < N → sc_T P p q → (W q t ↔ sc_c P v W p N t) := fun p q t hp ht hT => by
    obtain ⟨o1, o2⟩ := ho.1 p q hp hT
    rw [h q o2 t (by omega)]
    constructor
    · rintro (z | ⟨s, s1, s2, s3⟩)
      · omega
      · rw [if_neg (by omega)] at s3
        rw [ho.2 p s q hp s1 hT s2]
        exact s3
    · intro z
      exact Or.inr ⟨p, hp, hT, by rw [if_neg (by omega)]; exact z⟩
  refine ⟨fun t ht => ?_, fun p hp t ht => ⟨fun k => ?_, fun k => ?_, fun k => ?_, fun k => ?_, fun k => ?_, fun k => ?_, fun k => ⟨?_, ?_⟩⟩⟩
  · rw [h 0 hm t (by omega)]
    refine ⟨fun z => z.elim (fun y => y.2) ?_, fun z => Or.inl ⟨rfl, z⟩⟩
    rintro ⟨s, s1, s2, _⟩
    have := (ho.1 s 0 s1 s2).1
    omega
  · rw [key p (p + 1) t hp ht (Or.inl ⟨rfl, by omega⟩)]
    unfold sc_c
    constructor
    · rintro (⟨k, a, z⟩ | ⟨k, z⟩ | ⟨k, z⟩ | ⟨k, z⟩ | ⟨k, z⟩ | ⟨k, z⟩ | ⟨k, z⟩)
      · exact z
      all_goals omega
    · exact fun z => Or.inl ⟨k, ht, z⟩
  · rw [key p (p + 1) t hp ht (Or.inl ⟨rfl, by omega⟩)]
    unfold sc_c
    constructor
    · rintro (⟨k, z⟩ | ⟨k, ⟨a, b, c⟩ | ⟨a, i, b, c, d⟩⟩ | ⟨k, z⟩ | ⟨k, z⟩ | ⟨k, z⟩ | ⟨k, z⟩ | ⟨k, z⟩)
      · omega
      · exact ⟨t, Nat.le_refl _, b, c⟩
      · exact ⟨i, by omega, c, d⟩
      all_goals omega
    · rintro ⟨i, a, b, c⟩
      refine Or.inr (Or.inl ⟨k, ?_⟩)
      by_cases e : i = t
      · subst e
        exact Or.inl ⟨ht, b, c⟩
      · exact Or.inr ⟨by omega, i, by omega, b, c⟩
  · rw [key p (p + 1) t hp ht (Or.inl ⟨rfl, by omega⟩)]
    unfold sc_c
    constructor
    · rintro (⟨k, z⟩ | ⟨k, z⟩ | ⟨k, a, z⟩ | ⟨k, z⟩ | ⟨k, z⟩ | ⟨k, z⟩ | ⟨k, z⟩)
      · omega
      · omega
      · exact z
      all_goals omega
    · exact fun z => Or.inr (Or.inr (Or.inl ⟨k, ht, z⟩))
  · rw [key p (p + 1) t hp ht (Or.inl ⟨rfl, by omega⟩)]
    unfold sc_c
    constructor
    · rintro (⟨k, z⟩ | ⟨k, z⟩ | ⟨k, z⟩ | ⟨k, a, z⟩ | ⟨k, z⟩ | ⟨k, z⟩ | ⟨k, z⟩)
      · omega
      · omega
      · omega
      · exact z
      all_goals omega
    · exact fun z => Or.inr (Or.inr (Or.inr (Or.inl ⟨k, ht, z⟩)))
  · rw [key p (p + 1) t hp ht (Or.inl ⟨rfl, by omega⟩)]
    unfold sc_c
    constructor
    · rintro (⟨k, z⟩ | ⟨k, z⟩ | ⟨k, z⟩ | ⟨k, z⟩ | ⟨k, i, a, b, c⟩ | ⟨k, z⟩ | ⟨k, z⟩)
      · omega
      · omega
      · omega
      · omega
      · exact ⟨i, b, c⟩
      all_goals omega
    · rintro ⟨i, a, b⟩
      exact Or.inr (Or.inr (Or.inr (Or.inr (Or.inl ⟨k, i, by omega, a, b⟩))))
  · rw [key p (p + 1) t hp ht (Or.inl ⟨rfl, by omega⟩)]
    unfold sc_c
    constructor
    · rintro (⟨k, z⟩ | ⟨k, z⟩ | ⟨k, z⟩ | ⟨k, z⟩ | ⟨k, z⟩ | ⟨k, a, z⟩ | ⟨k, z⟩)
      · omega
      · omega
      · omega
      · omega
      · omega
      · exact z
      · omega
    · exact fun z => Or.inr (Or.inr (Or.inr (Or.inr (Or.inr (Or.inl ⟨k, ht, z⟩)))))
  · rw [key p (p + 1) t hp ht (Or.inl ⟨rfl, by omega⟩)]
    unfold sc_c
    constructor
    · rintro (⟨k, z⟩ | ⟨k, z⟩ | ⟨k, z⟩ | ⟨k, z⟩ | ⟨k, z⟩ | ⟨k, z⟩ | ⟨k, a, z⟩)
      · omega
      · omega
      · omega
      · omega
      · omega
      · omega
      · exact z
    · exact fun z => Or.inr (Or.inr (Or.inr (Or.inr (Or.inr (Or.inr ⟨k, ht, z⟩)))))
  · rw [key p (pd_l P p) t hp ht (Or.inr ⟨k, rfl⟩)]
    unfold sc_c
    constructor
    · rintro (⟨k, z⟩ | ⟨k, z⟩ | ⟨k, z⟩ | ⟨k, z⟩ | ⟨k, z⟩ | ⟨k, z⟩ | ⟨k, a, z⟩)
      · omega
      · omega
      · omega
      · omega
      · omega
      · omega
      · exact z
    · exact fun z => Or.inr (Or.inr (Or.inr (Or.inr (Or.inr (Or.inr ⟨k, ht, z⟩)))))
/-- only letters below N count -/
theorem sc_c_v {P : pd_P} {v v2 : Nat → Nat} {W : Nat → Nat → Prop} {p n u : Nat} (h : ∀ i, i < n → v i = v2 i) : sc_c P v W p n u → sc_c P v2 W p n u := by
  have hw : ∀ k, k < n → pd_w v k = pd_w v2 k := fun k hk => by
    unfold pd_w
    rw [h k hk]
  rintro (⟨k, a, i, b, c, d⟩ | ⟨k, ⟨a, b, c⟩ | ⟨a, i, b, c, d⟩⟩ | ⟨k, a, b, c⟩ | ⟨k, a, i, b, c⟩ | ⟨k, i, a, b, c⟩ | ⟨k, a, i, b, c, d⟩ | ⟨k, a, b⟩)
  · exact Or.inl ⟨k, a, i, b, c, (nt_a_w (fun x _ hx => hw x (by omega))).mp d⟩
  · exact Or.inr (Or.inl ⟨k, Or.inl ⟨a, b, (nt_a_w (fun x _ hx => hw x (by omega))).mp c⟩⟩)
  · exact Or.inr (Or.inl ⟨k, Or.inr ⟨a, i, b, c, (nt_a_w (fun x _ hx => hw x (by omega))).mp d⟩⟩)
  · exact Or.inr (Or.inr (Or.inl ⟨k, a, b, by rw [← h u a]; exact c⟩))
  · exact Or.inr (Or.inr (Or.inr (Or.inl ⟨k, a, i, b, c⟩)))
  · exact Or.inr (Or.inr (Or.inr (Or.inr (Or.inl ⟨k, i, a, b, c⟩))))
  · exact Or.inr (Or.inr (Or.inr (Or.inr (Or.inr (Or.inl ⟨k, a, i, b, c, fun x x1 x2 => by rw [← h x (by omega)]; exact d x x1 x2⟩)))))
  · exact Or.inr (Or.inr (Or.inr (Or.inr (Or.inr (Or.inr ⟨k, a, b⟩)))))
theorem sc_J_v {P : pd_P} {v v2 : Nat → Nat} {N : Nat} {W : Nat → Nat → Prop} (h : ∀ i, i < N → v i = v2 i) (hJ : sc_J P v N 0 W) : sc_J P v2 N 0 W := by
  intro q hq u hu
  rw [hJ q hq u hu]
  constructor
  · rintro (z | ⟨s, s1, s2, s3⟩)
    · exact Or.inl z
    · rw [if_neg (by omega)] at s3
      exact Or.inr ⟨s, s1, s2, by rw [if_neg (by omega)]; exact sc_c_v h s3⟩
  · rintro (z | ⟨s, s1, s2, s3⟩)
    · exact Or.inl z
    · rw [if_neg (by omega)] at s3
      exact Or.inr ⟨s, s1, s2, by rw [if_neg (by omega)]; exact sc_c_v (fun i hi => (h i hi).symm) s3⟩
/-- what each kind adds with letter N -/
def sc_add (P : pd_P) (v : Nat → Nat) (W : Nat → Nat → Prop) (p N u : Nat) : Prop :=
  (pd_k P p = 2 ∧ u = N ∧ ∃ i, i ≤ N ∧ W p i ∧ nt_a (pd_a P p) (pd_w v) i (N + 1)) ∨
  (pd_k P p = 3 ∧ ((u = N ∧ W p N ∧ nt_a (pd_a P p) (pd_w v) N N) ∨ (u = N + 1 ∧ ∃ i, i ≤ N ∧ W p i ∧ nt_a (pd_a P p) (pd_w v) i (N + 1)))) ∨
  (pd_k P p = 4 ∧ u = N ∧ W p N ∧ pd_c P p (v N) = true) ∨
  (pd_k P p = 5 ∧ u = N ∧ ∃ i, i ≤ N ∧ W p i) ∨
  (pd_k P p = 7 ∧ u = N + pd_t P p ∧ W p N) ∨
  (pd_k P p = 8 ∧ u = N ∧ ∃ i, i ≤ N ∧ W p i ∧ ∀ x, i ≤ x → x ≤ N → pd_c P p (v x) = false) ∨
  (pd_k P p = 10 ∧ u = N ∧ W p N)
theorem sc_add_le {P : pd_P} {v : Nat → Nat} {W : Nat → Nat → Prop} {p N u : Nat} (h : sc_add P v W p N u) : N ≤ u := by
  rcases h with ⟨k, a, z⟩ | ⟨k, ⟨a, z⟩ | ⟨a, z⟩⟩ | ⟨k, a, z⟩ | ⟨k, a, z⟩ | ⟨k, a, z⟩ | ⟨k, a, z⟩ | ⟨k, a, z⟩
  all_goals omega
theorem sc_c_s {P : pd_P} {v : Nat → Nat} {W : Nat → Nat → Prop} {p N u : Nat} : sc_c P v W p (N + 1) u ↔ sc_c P v W p N u ∨ sc_add P v W p N u := by
  constructor
  · rintro (⟨k, a, i, b, c, d⟩ | ⟨k, ⟨a, b, c⟩ | ⟨a, i, b, c, d⟩⟩ | ⟨k, a, b, c⟩ | ⟨k, a, i, b, c⟩ | ⟨k, i, a, b, c⟩ | ⟨k, a, i, b, c, d⟩ | ⟨k, a, b⟩)
    · by_cases e : u = N
      · subst e
        exact Or.inr (Or.inl ⟨k, rfl, i, b, c, d⟩)
      · exact Or.inl (Or.inl ⟨k, by omega, i, b, c, d⟩)
    · by_cases e : u = N
      · subst e
        exact Or.inr (Or.inr (Or.inl ⟨k, Or.inl ⟨rfl, b, c⟩⟩))
      · exact Or.inl (Or.inr (Or.inl ⟨k, Or.inl ⟨by omega, b, c⟩⟩))
    · by_cases e : u = N + 1
      · subst e
        exact Or.inr (Or.inr (Or.inl ⟨k, Or.inr ⟨rfl, i, by omega, c, d⟩⟩))
      · exact Or.inl (Or.inr (Or.inl ⟨k, Or.inr ⟨by omega, i, b, c, d⟩⟩))
    · by_cases e : u = N
      · subst e
        exact Or.inr (Or.inr (Or.inr (Or.inl ⟨k, rfl, b, c⟩)))
      · exact Or.inl (Or.inr (Or.inr (Or.inl ⟨k, by omega, b, c⟩)))
    · by_cases e : u = N
      · subst e
        exact Or.inr (Or.inr (Or.inr (Or.inr (Or.inl ⟨k, rfl, i, b, c⟩))))
      · exact Or.inl (Or.inr (Or.inr (Or.inr (Or.inl ⟨k, by omega, i, b, c⟩))))
    · by_cases e : i = N
      · subst e
        exact Or.inr (Or.inr (Or.inr (Or.inr (Or.inr (Or.inl ⟨k, c, b⟩)))))
      · exact Or.inl (Or.inr (Or.inr (Or.inr (Or.inr (Or.inl ⟨k, i, by omega, b, c⟩)))))
    · by_cases e : u = N
      · subst e
        exact Or.inr (Or.inr (Or.inr (Or.inr (Or.inr (Or.inr (Or.inl ⟨k, rfl, i, b, c, d⟩))))))
      · exact Or.inl (Or.inr (Or.inr (Or.inr (Or.inr (Or.inr (Or.inl ⟨k, by omega, i, b, c, d⟩))))))
    · by_cases e : u = N
      · subst e
        exact Or.inr (Or.inr (Or.inr (Or.inr (Or.inr (Or.inr (Or.inr ⟨k, rfl, b⟩))))))
      · exact Or.inl (Or.inr (Or.inr (Or.inr (Or.inr (Or.inr (Or.inr ⟨k, by omega, b⟩))))))
  · rintro (h | h)
    · rcases h with ⟨k, a, i, b, c, d⟩ | ⟨k, ⟨a, b, c⟩ | ⟨a, i, b, c, d⟩⟩ | ⟨k, a, b, c⟩ | ⟨k, a, i, b, c⟩ | ⟨k, i, a, b, c⟩ | ⟨k, a, i, b, c, d⟩ | ⟨k, a, b⟩
      · exact Or.inl ⟨k, by omega, i, b, c, d⟩
      · exact Or.inr (Or.inl ⟨k, Or.inl ⟨by omega, b, c⟩⟩)
      · exact Or.inr (Or.inl ⟨k, Or.inr ⟨by omega, i, b, c, d⟩⟩)
      · exact Or.inr (Or.inr (Or.inl ⟨k, by omega, b, c⟩))
      · exact Or.inr (Or.inr (Or.inr (Or.inl ⟨k, by omega, i, b, c⟩)))
      · exact Or.inr (Or.inr (Or.inr (Or.inr (Or.inl ⟨k, i, by omega, b, c⟩))))
      · exact Or.inr (Or.inr (Or.inr (Or.inr (Or.inr (Or.inl ⟨k, by omega, i, b, c, d⟩)))))
      · exact Or.inr (Or.inr (Or.inr (Or.inr (Or.inr (Or.inr ⟨k, by omega, b⟩)))))
    · rcases h with ⟨k, rfl, i, b, c, d⟩ | ⟨k, ⟨rfl, b, c⟩ | ⟨rfl, i, b, c, d⟩⟩ | ⟨k, rfl, b, c⟩ | ⟨k, rfl, i, b, c⟩ | ⟨k, a, b⟩ | ⟨k, rfl, i, b, c, d⟩ | ⟨k, rfl, b⟩
      · exact Or.inl ⟨k, by omega, i, b, c, d⟩
      · exact Or.inr (Or.inl ⟨k, Or.inl ⟨by omega, b, c⟩⟩)
      · exact Or.inr (Or.inl ⟨k, Or.inr ⟨by omega, i, by omega, c, d⟩⟩)
      · exact Or.inr (Or.inr (Or.inl ⟨k, by omega, b, c⟩))
      · exact Or.inr (Or.inr (Or.inr (Or.inl ⟨k, by omega, i, b, c⟩)))
      · exact Or.inr (Or.inr (Or.inr (Or.inr (Or.inl ⟨k, N, by omega, b, a⟩))))
      · exact Or.inr (Or.inr (Or.inr (Or.inr (Or.inr (Or.inl ⟨k, by omega, i, b, c, d⟩)))))
      · exact Or.inr (Or.inr (Or.inr (Or.inr (Or.inr (Or.inr ⟨k, by omega, b⟩)))))
theorem sc_add_T {P : pd_P} {v : Nat → Nat} {W : Nat → Nat → Prop} {p N u : Nat} (h : sc_add P v W p N u) : sc_T P p (p + 1) := by
  rcases h with ⟨k, z⟩ | ⟨k, z⟩ | ⟨k, z⟩ | ⟨k, z⟩ | ⟨k, z⟩ | ⟨k, z⟩ | ⟨k, z⟩
  all_goals exact Or.inl ⟨rfl, by omega⟩
/-- a part's step, as its words see it -/
theorem sc_part {P : pd_P} {v : Nat → Nat} {N p : Nat} {W V : Nat → Nat → Prop} (ho : sc_ok P) (hN : N < 64) (hJ : sc_J P v N p W) (hp : p < pd_m P) (hV : ∀ q u, q < pd_m P → u < 64 → (V q u ↔ W q u ∨ (sc_T P p q ∧ sc_add P v W p N u))) : sc_J P v N (p + 1) V :=
  sc_step (add := sc_add P v W p N) ho hN hJ hp (fun u h => sc_add_le h) (fun u hu => sc_c_s.trans ⟨fun z => z.elim Or.inl (fun y => Or.inr ⟨y, p + 1, sc_add_T y⟩), fun z => z.elim Or.inl (fun y => Or.inr y.1)⟩) hV
/-- rows under way: the states that some begin has reached -/
def sc_x (A : nt_A) (v : Nat → Nat) (U : Nat → Prop) (n : Nat) (X : Int64) : Prop := ∀ t, t < 64 → (nb X t = true ↔ ∃ i, i < n ∧ U i ∧ nz_s A (pd_w v) i (n - i) t)
theorem sc_x_s {A : nt_A} {v : Nat → Nat} {U : Nat → Prop} {N : Nat} {X X0 X1 : Int64} (h : sc_x A v U N X) (hn : nt_n A ≤ 40) (h0 : ∀ s, s < 64 → (nb X0 s = true ↔ nb X s = true ∨ (U N ∧ s = 0))) (h1 : ∀ t, t < 64 → (nb X1 t = true ↔ ∃ s, s < nt_n A + 1 ∧ nb X0 s = true ∧ nz_D A s t (some (v N)) ∧ nz_l A t)) : sc_x A v U (N + 1) X1 := by
  intro t ht
  rw [h1 t ht]
  constructor
  · rintro ⟨s, s1, s2, s3, s4⟩
    rcases (h0 s (by omega)).mp s2 with z | ⟨z1, z2⟩
    · obtain ⟨i, i1, i2, i3⟩ := (h s (by omega)).mp z
      refine ⟨i, by omega, i2, ?_⟩
      rw [show N + 1 - i = (N - i) + 1 by omega]
      refine nz_s_1.mpr ⟨s, i3, ?_, s4⟩
      rw [show i + (N - i) = N by omega]
      exact s3
    · subst z2
      refine ⟨N, by omega, z1, ?_⟩
      rw [show N + 1 - N = 0 + 1 by omega]
      exact nz_s_1.mpr ⟨0, nz_s_0.mpr rfl, s3, s4⟩
  · rintro ⟨i, i1, i2, i3⟩
    rw [show N + 1 - i = (N - i) + 1 by omega] at i3
    obtain ⟨s, s1, s2, s3⟩ := nz_s_1.mp i3
    rw [show i + (N - i) = N by omega] at s2
    have hb := nz_D_b s2
    refine ⟨s, hb.1, (h0 s (by omega)).mpr ?_, s2, s3⟩
    by_cases e : i = N
    · subst e
      rw [Nat.sub_self] at s1
      exact Or.inr ⟨i2, nz_s_0.mp s1⟩
    · exact Or.inl ((h s (by omega)).mpr ⟨i, by omega, i2, s1⟩)
theorem sc_x_a {A : nt_A} {v : Nat → Nat} {U : Nat → Prop} {n : Nat} {X F : Int64} (h : sc_x A v U n X) (hn : nt_n A ≤ 40) (hF : ∀ t, t < 64 → (nb F t = true ↔ nz_F A t)) : (∃ t, t < 64 ∧ nb X t = true ∧ nb F t = true) ↔ ∃ i, i < n ∧ U i ∧ nt_a A (pd_w v) i n := by
  constructor
  · rintro ⟨t, t1, t2, t3⟩
    obtain ⟨i, i1, i2, i3⟩ := (h t t1).mp t2
    refine ⟨i, i1, i2, ?_⟩
    rw [show n = i + (n - i) by omega]
    exact nz_s_a.mpr ⟨t, i3, (hF t t1).mp t3⟩
  · rintro ⟨i, i1, i2, i3⟩
    rw [show n = i + (n - i) by omega] at i3
    obtain ⟨t, t1, t2⟩ := nz_s_a.mp i3
    have ht : t < nt_n A + 1 := by
      rcases t2 with ⟨z, _⟩ | ⟨x, z, z2⟩
      · omega
      · have := z2.1
        omega
    exact ⟨t, by omega, (h t (by omega)).mpr ⟨i, i1, i2, t1⟩, (hF t (by omega)).mpr t2⟩
