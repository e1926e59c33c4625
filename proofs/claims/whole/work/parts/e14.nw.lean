/-! ===== how many places there are ===== -/
def cn_c (f : Nat → Bool) : Nat → Nat
  | 0 => 0
  | n + 1 => cn_c f n + (if f n = true then 1 else 0)
theorem cn_le (f : Nat → Bool) : ∀ n, cn_c f n ≤ n
  | 0 => Nat.le_refl _
  | n + 1 => by
    have := cn_le f n
    unfold cn_c
    split <;> omega
theorem cn_mono {f g : Nat → Bool} : ∀ n, (∀ k, k < n → f k = true → g k = true) → cn_c f n ≤ cn_c g n
  | 0, _ => Nat.le_refl _
  | n + 1, h => by
    have ih := cn_mono n (fun k hk => h k (by omega))
    have hn := h n (by omega)
    unfold cn_c
    by_cases hf : f n = true
    · rw [if_pos hf, if_pos (hn hf)]; omega
    · rw [if_neg hf]; split <;> omega
theorem cn_zero {f : Nat → Bool} : ∀ n, (∀ k, k < n → f k = false) → cn_c f n = 0
  | 0, _ => rfl
  | n + 1, h => by
    unfold cn_c
    rw [cn_zero n (fun k hk => h k (by omega)), h n (by omega)]
    rfl
theorem cn_add (f : Nat → Bool) (a : Nat) : ∀ b, cn_c f (a + b) = cn_c f a + cn_c (fun k => f (a + k)) b
  | 0 => rfl
  | b + 1 => by
    show cn_c f (a + b) + (if f (a + b) = true then 1 else 0) = cn_c f a + (cn_c (fun k => f (a + k)) b + (if f (a + b) = true then 1 else 0))
    rw [cn_add f a b]
    omega
/-- of two side by side -/
theorem cn_side {f g h : Nat → Bool} {a b : Nat} (hf : ∀ k, k < a → f k = true → g k = true) (hg : ∀ k, k < b → f (a + k) = true → h k = true) : cn_c f (a + b) ≤ cn_c g a + cn_c h b := by
  rw [cn_add]
  have := cn_mono a hf
  have := cn_mono (f := fun k => f (a + k)) b hg
  omega
/-- of pairs -/
theorem cn_pairs {f g h : Nat → Bool} {n : Nat} : ∀ m, (∀ x y, x < m → y < n → f (x * n + y) = true → g x = true ∧ h y = true) → cn_c f (m * n) ≤ cn_c g m * cn_c h n
  | 0, _ => by rw [Nat.zero_mul]; exact Nat.zero_le _
  | m + 1, hf => by
    have ih := cn_pairs m (fun x y hx hy => hf x y (by omega) hy)
    rw [Nat.add_mul, Nat.one_mul, cn_add]
    show _ ≤ (cn_c g m + (if g m = true then 1 else 0)) * cn_c h n
    rw [Nat.add_mul]
    by_cases hg : g m = true
    · rw [if_pos hg, Nat.one_mul]
      have := cn_mono (f := fun k => f (m * n + k)) (g := h) n (fun y hy hk => (hf m y (by omega) hy hk).2)
      omega
    · rw [if_neg hg, Nat.zero_mul]
      have : cn_c (fun k => f (m * n + k)) n = 0 := cn_zero n (fun y hy => by
        cases hb : f (m * n + y)
        · rfl
        · exact (hg (hf m y (by omega) hy hb).1).elim)
      omega
/-- how many pairs there are, and how many of a kind -/
def cn_l (h : Nat × Nat → Bool) : List (Nat × Nat) → Nat
  | [] => 0
  | x :: l => (if h x = true then 1 else 0) + cn_l h l
theorem cn_l_app (h : Nat × Nat → Bool) : ∀ l m, cn_l h (l ++ m) = cn_l h l + cn_l h m
  | [], m => by rw [List.nil_append]; show _ = 0 + _; omega
  | x :: l, m => by
    show _ + cn_l h (l ++ m) = _ + cn_l h l + cn_l h m
    rw [cn_l_app h l m]
    omega
theorem cn_l_x (h : Nat × Nat → Bool) : ∀ xs, cn_c (fun k => h (np_x xs k)) xs.length = cn_l h xs := by
  intro xs
  -- from the front
  have aux : ∀ l a, (∀ k, k < l.length → np_x xs (a + k) = np_x l k) → cn_c (fun k => h (np_x xs (a + k))) l.length = cn_l h l := by
    intro l
    induction l with
    | nil => exact fun _ _ => rfl
    | cons x l ih =>
      intro a ha
      have e : (x :: l).length = 1 + l.length := by rw [List.length_cons]; omega
      rw [e, cn_add]
      have h0 : np_x xs (a + 0) = x := ha 0 (by omega)
      have h1 := ih (a + 1) (fun k hk => by
        have := ha (k + 1) (by omega)
        rw [show a + 1 + k = a + (k + 1) by omega, this]
        rfl)
      have h2 : (fun k => h (np_x xs (a + (1 + k)))) = fun k => h (np_x xs (a + 1 + k)) := by
        funext k
        rw [show a + (1 + k) = a + 1 + k by omega]
      show cn_c (fun k => h (np_x xs (a + k))) 1 + cn_c (fun k => h (np_x xs (a + (1 + k)))) l.length = (if h x = true then 1 else 0) + cn_l h l
      rw [h2, h1]
      show 0 + (if h (np_x xs (a + 0)) = true then 1 else 0) + _ = _
      rw [h0]
      omega
  have := aux xs 0 (fun k _ => by rw [Nat.zero_add])
  have e : (fun k => h (np_x xs (0 + k))) = fun k => h (np_x xs k) := by
    funext k
    rw [Nat.zero_add]
  rw [e] at this
  exact this
theorem cn_l_all : ∀ xs : List (Nat × Nat), cn_l (fun _ => true) xs = xs.length
  | [] => rfl
  | x :: l => by
    show 1 + cn_l _ l = _
    rw [cn_l_all l, List.length_cons]
    omega
theorem cn_fr {U V : np_A} {p : Nat} {h : Nat × Nat → Bool} {g : Bool} {f : Nat → Bool} (hh : ∀ q, h (p, q) = true → g = true ∧ f q = true) : ∀ q, cn_l h (np_fr U V p q) ≤ if (np_L U p && g) = true then cn_c (fun q => np_F V q && f q) q else 0
  | 0 => Nat.zero_le _
  | q + 1 => by
    have ih := cn_fr (U := U) (V := V) hh q
    show cn_l h (np_fr U V p q ++ (if (np_L U p && np_F V q) = true then [(p, q)] else [])) ≤ _
    rw [cn_l_app]
    by_cases hg : (np_L U p && g) = true
    · rw [if_pos hg] at ih ⊢
      show _ ≤ cn_c _ q + (if (np_F V q && f q) = true then 1 else 0)
      by_cases hl : (np_L U p && np_F V q) = true
      · rw [if_pos hl]
        show _ + ((if h (p, q) = true then 1 else 0) + 0) ≤ _
        by_cases hx : h (p, q) = true
        · rw [if_pos hx, if_pos (nt_and_b.mpr ⟨(nt_and_b.mp hl).2, (hh q hx).2⟩)]
          omega
        · rw [if_neg hx]
          omega
      · rw [if_neg hl]
        show _ + 0 ≤ _
        omega
    · rw [if_neg hg] at ih ⊢
      by_cases hl : (np_L U p && np_F V q) = true
      · rw [if_pos hl]
        show _ + ((if h (p, q) = true then 1 else 0) + 0) ≤ _
        by_cases hx : h (p, q) = true
        · exact (hg (nt_and_b.mpr ⟨(nt_and_b.mp hl).1, (hh q hx).1⟩)).elim
        · rw [if_neg hx]
          omega
      · rw [if_neg hl]
        show _ + 0 ≤ _
        omega
theorem cn_fp {U V : np_A} {h : Nat × Nat → Bool} {g f : Nat → Bool} (hh : ∀ p q, h (p, q) = true → g p = true ∧ f q = true) : ∀ p, cn_l h (np_fp U V p) ≤ cn_c (fun p => np_L U p && g p) p * cn_c (fun q => np_F V q && f q) (np_n V)
  | 0 => Nat.zero_le _
  | p + 1 => by
    have ih := cn_fp (U := U) (V := V) hh p
    show cn_l h (np_fp U V p ++ np_fr U V p (np_n V)) ≤ (cn_c (fun p => np_L U p && g p) p + (if (np_L U p && g p) = true then 1 else 0)) * _
    rw [cn_l_app, Nat.add_mul]
    have := cn_fr (U := U) (V := V) (p := p) (h := h) (g := g p) (f := f) (fun q => hh p q) (np_n V)
    split at this
    · rename_i hc
      rw [if_pos hc, Nat.one_mul]
      omega
    · rename_i hc
      rw [if_neg hc, Nat.zero_mul]
      omega
/-- first and last places, and all -/
def cn_F (U : np_A) : Nat := cn_c (np_F U) (np_n U)
def cn_L (U : np_A) : Nat := cn_c (np_L U) (np_n U)
def cn_t (w : Nat) : Nat := if w = 1 then 2 else if w = 2 then 5 else if w = 3 then 9 else if w = 4 then 15 else if w = 5 then 25 else 43
def cn_ok (U : np_A) (w : Nat) : Prop := cn_F U ≤ 2 ^ (w - 1) ∧ cn_L U ≤ 2 ^ (w - 1) ∧ np_n U ≤ cn_t w
theorem cn_F_side {U V O : np_A} (hn : np_n O = np_n U + np_n V) (h1 : ∀ k, k < np_n U → np_F O k = true → np_F U k = true) (h2 : ∀ k, k < np_n V → np_F O (np_n U + k) = true → np_F V k = true) : cn_F O ≤ cn_F U + cn_F V := by
  unfold cn_F
  rw [hn]
  exact cn_side h1 h2
theorem cn_L_side {U V O : np_A} (hn : np_n O = np_n U + np_n V) (h1 : ∀ k, k < np_n U → np_L O k = true → np_L U k = true) (h2 : ∀ k, k < np_n V → np_L O (np_n U + k) = true → np_L V k = true) : cn_L O ≤ cn_L U + cn_L V := by
  unfold cn_L
  rw [hn]
  exact cn_side h1 h2
/-- the sums: all of small numbers -/
theorem cn_w2 : ∀ a b : Fin 6, 1 ≤ a.1 → 1 ≤ b.1 → a.1 + b.1 ≤ 6 → 2 ^ (a.1 - 1) + 2 ^ (b.1 - 1) ≤ 2 ^ (a.1 + b.1 - 1) ∧ 2 ^ (a.1 - 1) + 2 ^ (a.1 - 1) * 2 ^ (b.1 - 1) ≤ 2 ^ (a.1 + b.1 - 1) ∧ cn_t a.1 + cn_t b.1 + 2 ^ (a.1 - 1) * 2 ^ (b.1 - 1) ≤ cn_t (a.1 + b.1) := by decide +kernel
theorem cn_w3 : ∀ a b : Fin 6, 1 ≤ a.1 → 1 ≤ b.1 → (a.1 + 1) * (b.1 + 1) ≤ 6 → 2 ^ (a.1 - 1) * 2 ^ (b.1 - 1) ≤ 2 ^ ((a.1 + 1) * (b.1 + 1) - 1) ∧ cn_t a.1 + cn_t b.1 + cn_t a.1 * cn_t b.1 ≤ cn_t ((a.1 + 1) * (b.1 + 1)) := by decide +kernel
theorem cn_w4 : ∀ a k : Fin 7, 1 ≤ a.1 → 1 ≤ k.1 → k.1 * a.1 ≤ 6 → 2 ^ (a.1 - 1) ≤ 2 ^ (k.1 * a.1 - 1) ∧ k.1 * 2 ^ (a.1 - 1) ≤ 2 ^ (k.1 * a.1 - 1) ∧ cn_t a.1 * k.1 ≤ cn_t (k.1 * a.1) := by decide +kernel
theorem cn_add_ok {U V O : np_A} {a b : Nat} (ha : 1 ≤ a) (hb : 1 ≤ b) (hab : a + b ≤ 6) (hU : cn_ok U a) (hV : cn_ok V b) (hF : cn_F O ≤ cn_F U + cn_F V) (hL : cn_L O ≤ cn_L U + cn_L V) (hn : np_n O = np_n U + np_n V) : cn_ok O (a + b) := by
  obtain ⟨c1, c2, c3⟩ := cn_w2 ⟨a, by omega⟩ ⟨b, by omega⟩ ha hb hab
  dsimp only at c1 c2 c3
  obtain ⟨u1, u2, u3⟩ := hU
  obtain ⟨v1, v2, v3⟩ := hV
  refine ⟨by omega, by omega, ?_⟩
  have : 0 ≤ 2 ^ (a - 1) * 2 ^ (b - 1) := Nat.zero_le _
  omega
theorem cn_then_ok {U V : np_A} {a b : Nat} (ha : 1 ≤ a) (hb : 1 ≤ b) (hab : a + b ≤ 6) (hU : cn_ok U a) (hV : cn_ok V b) : cn_ok (np_then U V) (a + b) := by
  have eF : ∀ p, np_F (np_then U V) p = if p < np_n U then np_F U p else np_e U && np_F V (p - np_n U) := fun _ => rfl
  have eL : ∀ p, np_L (np_then U V) p = if p < np_n U then np_e V && np_L U p else np_L V (p - np_n U) := fun _ => rfl
  refine cn_add_ok ha hb hab hU hV (cn_F_side rfl (fun k hk h => ?_) (fun k hk h => ?_)) (cn_L_side rfl (fun k hk h => ?_) (fun k hk h => ?_)) rfl
  · rw [eF, if_pos hk] at h; exact h
  · rw [eF, if_neg (by omega), Nat.add_sub_cancel_left] at h; exact (nt_and_b.mp h).2
  · rw [eL, if_pos hk] at h; exact (nt_and_b.mp h).2
  · rw [eL, if_neg (by omega), Nat.add_sub_cancel_left] at h; exact h
theorem cn_or_ok {U V : np_A} {a b : Nat} (ha : 1 ≤ a) (hb : 1 ≤ b) (hab : a + b ≤ 6) (hU : cn_ok U a) (hV : cn_ok V b) : cn_ok (np_or U V) (a + b) := by
  have eF : ∀ p, np_F (np_or U V) p = if p < np_n U then np_F U p else np_F V (p - np_n U) := fun _ => rfl
  have eL : ∀ p, np_L (np_or U V) p = if p < np_n U then np_L U p else np_L V (p - np_n U) := fun _ => rfl
  refine cn_add_ok ha hb hab hU hV (cn_F_side rfl (fun k hk h => ?_) (fun k hk h => ?_)) (cn_L_side rfl (fun k hk h => ?_) (fun k hk h => ?_)) rfl
  · rw [eF, if_pos hk] at h; exact h
  · rw [eF, if_neg (by omega), Nat.add_sub_cancel_left] at h; exact h
  · rw [eL, if_pos hk] at h; exact h
  · rw [eL, if_neg (by omega), Nat.add_sub_cancel_left] at h; exact h
theorem cn_fuse_ok {U V : np_A} {a b : Nat} (ha : 1 ≤ a) (hb : 1 ≤ b) (hab : a + b ≤ 6) (hU : cn_ok U a) (hV : cn_ok V b) : cn_ok (np_fuse U V (np_fp U V (np_n U))) (a + b) := by
  obtain ⟨c1, c2, c3⟩ := cn_w2 ⟨a, by omega⟩ ⟨b, by omega⟩ ha hb hab
  obtain ⟨_, c4, _⟩ := cn_w2 ⟨b, by omega⟩ ⟨a, by omega⟩ hb ha (show b + a ≤ 6 by omega)
  dsimp only at c1 c2 c3 c4
  obtain ⟨u1, u2, u3⟩ := hU
  obtain ⟨v1, v2, v3⟩ := hV
  have em : ∀ (f : Nat → Bool) n, cn_c (fun q => f q && true) n = cn_c f n := fun f n => by
    have : (fun q => f q && true) = f := by funext q; rw [Bool.and_true]
    rw [this]
  generalize hxs : np_fp U V (np_n U) = xs
  -- how many pairs
  have hlen : xs.length ≤ cn_L U * cn_F V := by
    rw [← cn_l_all xs, ← hxs]
    have := cn_fp (U := U) (V := V) (h := fun _ => true) (g := fun _ => true) (f := fun _ => true) (fun p q _ => ⟨rfl, rfl⟩) (np_n U)
    rw [em, em] at this
    exact this
  have hx1 : cn_l (fun x => np_F U x.1) xs ≤ cn_F U * cn_F V := by
    rw [← hxs]
    have := cn_fp (U := U) (V := V) (h := fun x => np_F U x.1) (g := np_F U) (f := fun _ => true) (fun p q h => ⟨h, rfl⟩) (np_n U)
    rw [em] at this
    refine Nat.le_trans this (Nat.mul_le_mul_right _ ?_)
    exact cn_mono _ (fun k _ h => (nt_and_b.mp h).2)
  have hx2 : cn_l (fun x => np_L V x.2) xs ≤ cn_L U * cn_L V := by
    rw [← hxs]
    have := cn_fp (U := U) (V := V) (h := fun x => np_L V x.2) (g := fun _ => true) (f := np_L V) (fun p q h => ⟨rfl, h⟩) (np_n U)
    rw [em] at this
    refine Nat.le_trans this (Nat.mul_le_mul_left _ ?_)
    exact cn_mono _ (fun k _ h => (nt_and_b.mp h).2)
  have eN : np_n (np_fuse U V xs) = np_n U + np_n V + xs.length := rfl
  have eF : ∀ p, np_F (np_fuse U V xs) p = if p < np_n U then np_F U p else if p < np_n U + np_n V then false else np_F U (np_x xs (p - (np_n U + np_n V))).1 := fun _ => rfl
  have eL : ∀ p, np_L (np_fuse U V xs) p = if p < np_n U then false else if p < np_n U + np_n V then np_L V (p - np_n U) else np_L V (np_x xs (p - (np_n U + np_n V))).2 := fun _ => rfl
  have hF : cn_F (np_fuse U V xs) ≤ cn_F U + cn_F U * cn_F V := by
    unfold cn_F
    rw [eN, cn_add]
    have h1 : cn_c (np_F (np_fuse U V xs)) (np_n U + np_n V) ≤ cn_c (np_F U) (np_n U) := by
      have := cn_side (f := np_F (np_fuse U V xs)) (g := np_F U) (h := fun _ => false) (a := np_n U) (b := np_n V) (fun k hk h => by rw [eF, if_pos hk] at h; exact h) (fun k hk h => by rw [eF, if_neg (by omega), if_pos (by omega)] at h; exact h)
      rw [cn_zero (f := fun _ => false) _ (fun _ _ => rfl)] at this
      omega
    have h2 : cn_c (fun k => np_F (np_fuse U V xs) (np_n U + np_n V + k)) xs.length = cn_l (fun x => np_F U x.1) xs := by
      rw [← cn_l_x]
      congr 1
      funext k
      rw [eF, if_neg (by omega), if_neg (by omega), Nat.add_sub_cancel_left]
    have hx1 : cn_l (fun x => np_F U x.1) xs ≤ cn_c (np_F U) (np_n U) * cn_c (np_F V) (np_n V) := hx1
    omega
  have hL : cn_L (np_fuse U V xs) ≤ cn_L V + cn_L U * cn_L V := by
    unfold cn_L
    rw [eN, cn_add]
    have h1 : cn_c (np_L (np_fuse U V xs)) (np_n U + np_n V) ≤ cn_c (np_L V) (np_n V) := by
      have := cn_side (f := np_L (np_fuse U V xs)) (g := fun _ => false) (h := np_L V) (a := np_n U) (b := np_n V) (fun k hk h => by rw [eL, if_pos hk] at h; exact h) (fun k hk h => by rw [eL, if_neg (by omega), if_pos (by omega), Nat.add_sub_cancel_left] at h; exact h)
      rw [cn_zero (f := fun _ => false) _ (fun _ _ => rfl)] at this
      omega
    have h2 : cn_c (fun k => np_L (np_fuse U V xs) (np_n U + np_n V + k)) xs.length = cn_l (fun x => np_L V x.2) xs := by
      rw [← cn_l_x]
      congr 1
      funext k
      rw [eL, if_neg (by omega), if_neg (by omega), Nat.add_sub_cancel_left]
    have hx2 : cn_l (fun x => np_L V x.2) xs ≤ cn_c (np_L U) (np_n U) * cn_c (np_L V) (np_n V) := hx2
    omega
  refine ⟨?_, ?_, ?_⟩
  · have := Nat.mul_le_mul u1 v1
    omega
  · have := Nat.mul_le_mul v2 u2
    rw [Nat.mul_comm (cn_L V)] at this
    rw [Nat.add_comm b a] at c4
    omega
  · rw [eN]
    have := Nat.mul_le_mul u2 v1
    omega
theorem cn_and_ok {U V : np_A} {a b : Nat} (ha : 1 ≤ a) (hb : 1 ≤ b) (hab : (a + 1) * (b + 1) ≤ 6) (hU : cn_ok U a) (hV : cn_ok V b) : cn_ok (np_and U V) ((a + 1) * (b + 1)) := by
  have ha6 : a < 6 := by
    have := Nat.mul_le_mul_left (a + 1) (show 2 ≤ b + 1 by omega)
    omega
  have hb6 : b < 6 := by
    have := Nat.mul_le_mul_right (b + 1) (show 2 ≤ a + 1 by omega)
    omega
  obtain ⟨c1, c2⟩ := cn_w3 ⟨a, ha6⟩ ⟨b, hb6⟩ ha hb hab
  dsimp only at c1 c2
  obtain ⟨u1, u2, u3⟩ := hU
  obtain ⟨v1, v2, v3⟩ := hV
  have eN : np_n (np_and U V) = np_n U + np_n V + np_n U * np_n V := rfl
  have eF : ∀ p, np_F (np_and U V) p = if p < np_n U + np_n V then false else np_F U ((p - (np_n U + np_n V)) / np_n V) && np_F V ((p - (np_n U + np_n V)) % np_n V) := fun _ => rfl
  have eL : ∀ p, np_L (np_and U V) p = if p < np_n U + np_n V then false else np_L U ((p - (np_n U + np_n V)) / np_n V) && np_L V ((p - (np_n U + np_n V)) % np_n V) := fun _ => rfl
  refine ⟨?_, ?_, ?_⟩
  · unfold cn_F
    rw [eN, cn_add, cn_zero (np_n U + np_n V) (fun k hk => by rw [eF, if_pos hk])]
    have := cn_pairs (f := fun k => np_F (np_and U V) (np_n U + np_n V + k)) (g := np_F U) (h := np_F V) (n := np_n V) (np_n U) (fun x y hx hy h => by
      obtain ⟨_, d2, d3⟩ := nt_pair (n := np_n V) (m := np_n U) hx hy
      rw [eF, if_neg (by omega), Nat.add_sub_cancel_left, d2, d3] at h
      exact nt_and_b.mp h)
    have h2 := Nat.mul_le_mul u1 v1
    unfold cn_F at h2
    omega
  · unfold cn_L
    rw [eN, cn_add, cn_zero (np_n U + np_n V) (fun k hk => by rw [eL, if_pos hk])]
    have := cn_pairs (f := fun k => np_L (np_and U V) (np_n U + np_n V + k)) (g := np_L U) (h := np_L V) (n := np_n V) (np_n U) (fun x y hx hy h => by
      obtain ⟨_, d2, d3⟩ := nt_pair (n := np_n V) (m := np_n U) hx hy
      rw [eL, if_neg (by omega), Nat.add_sub_cancel_left, d2, d3] at h
      exact nt_and_b.mp h)
    have h2 := Nat.mul_le_mul u2 v2
    unfold cn_L at h2
    omega
  · rw [eN]
    have := Nat.mul_le_mul u3 v3
    omega
theorem cn_star_ok {b : Bool} {U : np_A} {a : Nat} (hU : cn_ok U a) : cn_ok (np_star b U) a := hU
theorem cn_times_ok {lo hi a k : Nat} {U : np_A} (ha : 1 ≤ a) (hk : k = if 1 < hi then hi else 1) (hka : k * a ≤ 6) (hU : cn_ok U a) : cn_ok (np_times lo hi U) (k * a) := by
  have hk1 : 1 ≤ k := by rw [hk]; split <;> omega
  have hk6 : k < 7 := by
    have := Nat.mul_le_mul_left k ha
    omega
  have ha6 : a < 7 := by
    have := Nat.mul_le_mul_right a hk1
    omega
  obtain ⟨c1, c2, c3⟩ := cn_w4 ⟨a, ha6⟩ ⟨k, hk6⟩ ha hk1 hka
  dsimp only at c1 c2 c3
  obtain ⟨u1, u2, u3⟩ := hU
  by_cases h0 : hi = 0
  · subst h0
    have e1 : np_times lo 0 U = (np_n U, np_M U, np_B U, fun _ => false, fun _ => false, true) := by unfold np_times; rw [if_pos rfl]
    have e2 : k = 1 := by rw [hk, if_neg (by omega)]
    subst e2
    rw [e1, Nat.one_mul]
    refine ⟨?_, ?_, u3⟩
    · have : cn_F (np_n U, np_M U, np_B U, fun _ => false, fun _ => false, true) = 0 := cn_zero _ (fun _ _ => rfl)
      rw [this]
      exact Nat.zero_le _
    · have : cn_L (np_n U, np_M U, np_B U, fun _ => false, fun _ => false, true) = 0 := cn_zero _ (fun _ _ => rfl)
      rw [this]
      exact Nat.zero_le _
  · have ek : k = hi := by rw [hk]; split <;> omega
    subst ek
    have e0 : np_n (np_times lo k U) = np_n U * k := by unfold np_times; rw [if_neg h0]; rfl
    have e4 : np_F (np_times lo k U) = fun p => decide (p < np_n U) && np_F U p := by unfold np_times; rw [if_neg h0]; rfl
    have e5 : np_L (np_times lo k U) = fun p => np_L U (p % np_n U) && decide (np_need U lo ≤ p / np_n U + 1) := by unfold np_times; rw [if_neg h0]; rfl
    refine ⟨?_, ?_, ?_⟩
    · unfold cn_F
      rw [e0, e4]
      have e : np_n U * k = np_n U + np_n U * (k - 1) := by
        conv => lhs; rw [show k = 1 + (k - 1) by omega, Nat.mul_add, Nat.mul_one]
      rw [e]
      have := cn_side (f := fun p => decide (p < np_n U) && np_F U p) (g := np_F U) (h := fun _ => false) (a := np_n U) (b := np_n U * (k - 1)) (fun k hk h => (nt_and_b.mp h).2) (fun k hk h => by
        have := of_decide_eq_true (nt_and_b.mp h).1
        omega)
      rw [cn_zero (f := fun _ => false) _ (fun _ _ => rfl)] at this
      have u1 : cn_c (np_F U) (np_n U) ≤ _ := u1
      omega
    · unfold cn_L
      rw [e0, e5, Nat.mul_comm]
      have := cn_pairs (f := fun p => np_L U (p % np_n U) && decide (np_need U lo ≤ p / np_n U + 1)) (g := fun _ => true) (h := np_L U) (n := np_n U) k (fun x y hx hy h => by
        obtain ⟨_, d2, d3⟩ := nt_pair (n := np_n U) (m := k) hx hy
        have h := (nt_and_b.mp h).1
        rw [d3] at h
        exact ⟨rfl, h⟩)
      have h2 := Nat.mul_le_mul (cn_le (fun _ => true) k) (show cn_c (np_L U) (np_n U) ≤ _ from u2)
      omega
    · rw [e0]
      have := Nat.mul_le_mul_right k u3
      omega
theorem cn_occ_ok {n : Nat} {wb : Bool} {m : Nat → Bool} (h1 : 1 ≤ nt_S n wb) (h6 : nt_S n wb ≤ 6) : cn_ok (np_occ n wb m) (nt_S n wb) := by
  have hf : ∀ n : Fin 4, ∀ wb : Bool, 1 ≤ nt_S n.1 wb → nt_S n.1 wb ≤ 6 → cn_F (np_occ n.1 wb (fun _ => false)) ≤ 2 ^ (nt_S n.1 wb - 1) ∧ cn_L (np_occ n.1 wb (fun _ => false)) ≤ 2 ^ (nt_S n.1 wb - 1) ∧ 1 + nt_S n.1 wb ≤ cn_t (nt_S n.1 wb) := by decide +kernel
  have hn : n < 4 := by unfold nt_S at h6; omega
  exact hf ⟨n, hn⟩ wb h1 h6
theorem cn_cond_ok (m : Nat → Bool) : cn_ok (np_cond m) 1 := by
  refine ⟨?_, ?_, ?_⟩
  · exact cn_le _ _
  · exact cn_le _ _
  · show 1 ≤ 2
    omega
