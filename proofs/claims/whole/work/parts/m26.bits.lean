/-! ===== places in memory ===== -/
section PB
/-- a number's signs from s on, n of them, stand for f -/
def pb_b (x : Int64) (s n : Nat) (f : Nat → Bool) : Prop := ∀ q, q < 64 → (nb x q = true ↔ s ≤ q ∧ q < s + n ∧ f (q - s) = true)
theorem pb_b_c {x : Int64} {s n : Nat} {f g : Nat → Bool} (h : pb_b x s n f) (e : ∀ p, p < n → f p = g p) : pb_b x s n g := fun q hq => by
  rw [h q hq]
  constructor
  · rintro ⟨h1, h2, h3⟩
    exact ⟨h1, h2, by rw [← e _ (by omega)]; exact h3⟩
  · rintro ⟨h1, h2, h3⟩
    exact ⟨h1, h2, by rw [e _ (by omega)]; exact h3⟩
theorem pb_b_0 {s n : Nat} : pb_b 0 s n (fun _ => false) := fun q hq => by
  rw [nb_0]
  exact ⟨fun z => (by cases z), fun z => (by cases z.2.2)⟩
theorem pb_b_or {x y : Int64} {s n m : Nat} {f g : Nat → Bool} (h : pb_b x s n f) (h2 : pb_b y (s + n) m g) : pb_b (x ||| y) s (n + m) (fun p => if p < n then f p else g (p - n)) := fun q hq => by
  rw [nb_or, Bool.or_eq_true, h q hq, h2 q hq]
  constructor
  · rintro (⟨a, b, c⟩ | ⟨a, b, c⟩)
    · exact ⟨a, by omega, by show (if q - s < n then f (q - s) else g (q - s - n)) = true; rw [if_pos (by omega)]; exact c⟩
    · exact ⟨by omega, by omega, by show (if q - s < n then f (q - s) else g (q - s - n)) = true; rw [if_neg (by omega), Nat.sub_sub]; exact c⟩
  · rintro ⟨a, b, c⟩
    have c : (if q - s < n then f (q - s) else g (q - s - n)) = true := c
    by_cases e : q - s < n
    · rw [if_pos e] at c
      exact Or.inl ⟨a, by omega, c⟩
    · rw [if_neg e, Nat.sub_sub] at c
      exact Or.inr ⟨by omega, by omega, c⟩
theorem pb_b_l {x : Int64} {s n : Nat} {f : Nat → Bool} (h : pb_b x s n f) (m : Nat) : pb_b x s (n + m) (fun p => if p < n then f p else false) := fun q hq => by
  rw [h q hq]
  constructor
  · rintro ⟨a, b, c⟩
    exact ⟨a, by omega, by show (if q - s < n then f (q - s) else false) = true; rw [if_pos (by omega)]; exact c⟩
  · rintro ⟨a, b, c⟩
    have c : (if q - s < n then f (q - s) else false) = true := c
    by_cases e : q - s < n
    · rw [if_pos e] at c
      exact ⟨a, by omega, c⟩
    · rw [if_neg e] at c
      cases c
theorem pb_b_r {x : Int64} {s n m : Nat} {f : Nat → Bool} (h : pb_b x (s + n) m f) : pb_b x s (n + m) (fun p => if p < n then false else f (p - n)) := fun q hq => by
  rw [h q hq]
  constructor
  · rintro ⟨a, b, c⟩
    exact ⟨by omega, by omega, by show (if q - s < n then false else f (q - s - n)) = true; rw [if_neg (by omega), Nat.sub_sub]; exact c⟩
  · rintro ⟨a, b, c⟩
    have c : (if q - s < n then false else f (q - s - n)) = true := c
    by_cases e : q - s < n
    · rw [if_pos e] at c
      cases c
    · rw [if_neg e, Nat.sub_sub] at c
      exact ⟨by omega, by omega, c⟩
theorem pb_b_o2 {x y : Int64} {s n : Nat} {f g : Nat → Bool} (h : pb_b x s n f) (h2 : pb_b y s n g) : pb_b (x ||| y) s n (fun p => f p || g p) := fun q hq => by
  rw [nb_or, Bool.or_eq_true, h q hq, h2 q hq]
  constructor
  · rintro (⟨a, b, c⟩ | ⟨a, b, c⟩)
    · exact ⟨a, b, by rw [Bool.or_eq_true]; exact Or.inl c⟩
    · exact ⟨a, b, by rw [Bool.or_eq_true]; exact Or.inr c⟩
  · rintro ⟨a, b, c⟩
    rcases (Bool.or_eq_true _ _).mp c with c | c
    · exact Or.inl ⟨a, b, c⟩
    · exact Or.inr ⟨a, b, c⟩
theorem pb_b_1 {s n p : Nat} (hp : p < n) (h : s + p < 64) : pb_b (Int64.ofNat 1 <<< ((Int32.ofNat (s + p)).toInt64 &&& 63)) s n (fun j => decide (j = p)) := fun q hq => by
  rw [nb_one h, decide_eq_true_iff]
  constructor
  · intro e
    exact ⟨by omega, by omega, decide_eq_true (by omega)⟩
  · rintro ⟨a, b, c⟩
    have := of_decide_eq_true c
    omega
/-- what a bit tells -/
theorem pb_b_at {x : Int64} {s n p : Nat} {f : Nat → Bool} (h : pb_b x s n f) (hp : p < n) (h64 : s + p < 64) : nb x (s + p) = f p := by
  have e := h (s + p) h64
  rw [Nat.add_sub_cancel_left] at e
  rw [Bool.eq_iff_iff, e]
  exact ⟨fun z => z.2.2, fun z => ⟨by omega, by omega, z⟩⟩
theorem pb_b_out {x : Int64} {s n q : Nat} {f : Nat → Bool} (h : pb_b x s n f) (hq : q < 64) (ho : q < s ∨ s + n ≤ q) : ¬ nb x q = true := fun z => by
  have := (h q hq).mp z
  omega
/-- places from s on -/
def pb_P (L : Nat → Nat → Int64) (s : Nat) (U : np_A) : Prop := ∀ p, p < np_n U → (∀ v, v < 64 → nb (L 506 (s + p)) v = np_M U p v) ∧ pb_b (L 507 (s + p)) s (np_n U) (np_B U p)
def pb_T (I : Nat → Nat → Int32) (L : Nat → Nat → Int64) (n s : Nat) (U : np_A) : Prop := I 510 n = Int32.ofNat s ∧ I 511 n = Int32.ofNat (s + np_n U) ∧ pb_P L s U ∧ pb_b (L 512 n) s (np_n U) (np_F U) ∧ pb_b (L 513 n) s (np_n U) (np_L U) ∧ I 514 n = wb_i (np_e U)
def pb_K (I : Nat → Nat → Int32) (L : Nat → Nat → Int64) (a : Nat) (U : Nat → np_A) : List Nat → Nat → Prop
  | [], t => t = 0
  | y :: l, t => ∃ s, t = s + np_n (U y) ∧ pb_T I L (y - a) s (U y) ∧ pb_K I L a U l s
theorem pb_P_c {L L1 : Nat → Nat → Int64} {s : Nat} {U : np_A} (h : pb_P L s U) (e : ∀ p, p < s + np_n U → L1 506 p = L 506 p ∧ L1 507 p = L 507 p) : pb_P L1 s U := fun p hp => by
  obtain ⟨e1, e2⟩ := e (s + p) (by omega)
  rw [e1, e2]
  exact h p hp
theorem pb_T_c {I I1 : Nat → Nat → Int32} {L L1 : Nat → Nat → Int64} {n s : Nat} {U : np_A} (h : pb_T I L n s U) (e : ∀ p, p < s + np_n U → L1 506 p = L 506 p ∧ L1 507 p = L 507 p) (hI : I1 510 n = I 510 n ∧ I1 511 n = I 511 n ∧ I1 514 n = I 514 n) (hL : L1 512 n = L 512 n ∧ L1 513 n = L 513 n) : pb_T I1 L1 n s U := by
  obtain ⟨h1, h2, h3, h4, h5, h6⟩ := h
  unfold pb_T
  rw [hI.1, hI.2.1, hI.2.2, hL.1, hL.2]
  exact ⟨h1, h2, pb_P_c h3 e, h4, h5, h6⟩
theorem pb_K_c {I I1 : Nat → Nat → Int32} {L L1 : Nat → Nat → Int64} {a : Nat} {U : Nat → np_A} : ∀ {l : List Nat} {t : Nat}, pb_K I L a U l t → (∀ p, p < t → L1 506 p = L 506 p ∧ L1 507 p = L 507 p) → (∀ y, y ∈ l → (I1 510 (y - a) = I 510 (y - a) ∧ I1 511 (y - a) = I 511 (y - a) ∧ I1 514 (y - a) = I 514 (y - a)) ∧ L1 512 (y - a) = L 512 (y - a) ∧ L1 513 (y - a) = L 513 (y - a)) → pb_K I1 L1 a U l t
  | [], t, h, _, _ => h
  | y :: l, t, h, e, g => by
    obtain ⟨s, h1, h2, h3⟩ := h
    obtain ⟨g1, g2⟩ := g y List.mem_cons_self
    exact ⟨s, h1, pb_T_c h2 (fun p hp => e p (by omega)) g1 g2, pb_K_c h3 (fun p hp => e p (by omega)) (fun z hz => g z (List.mem_cons_of_mem _ hz))⟩
/-- both side by side -/
theorem pb_side {L L1 : Nat → Nat → Int64} {s : Nat} {U V O : np_A} (hU : pb_P L s U) (hV : pb_P L (s + np_n U) V) (hn : np_n O = np_n U + np_n V) (hM : np_M O = np_sM U V) (X : Nat → Nat → Bool) (hB : np_B O = np_sB U V X) (e6 : ∀ p, p < s + np_n U + np_n V → L1 506 p = L 506 p) (e7 : ∀ p, p < np_n U → pb_b (L1 507 (s + p)) s (np_n U + np_n V) (fun q => if q < np_n U then np_B U p q else X p (q - np_n U))) (e8 : ∀ p, p < np_n V → L1 507 (s + np_n U + p) = L 507 (s + np_n U + p)) : pb_P L1 s O := fun p hp => by
  rw [hn] at hp
  rw [hn, hM, hB]
  by_cases c : p < np_n U
  · refine ⟨fun v hv => ?_, pb_b_c (e7 p c) (fun q _ => ?_)⟩
    · rw [e6 _ (by omega), np_sM_1 c]
      exact (hU p c).1 v hv
    · unfold np_sB
      rw [if_pos c]
  · obtain ⟨k, rfl⟩ : ∃ k, p = np_n U + k := ⟨p - np_n U, by omega⟩
    rw [← Nat.add_assoc]
    obtain ⟨h1, h2⟩ := hV k (by omega)
    refine ⟨fun v hv => ?_, ?_⟩
    · rw [e6 _ (by omega), np_sM_2 (by omega), Nat.add_sub_cancel_left]
      exact h1 v hv
    · rw [e8 k (by omega)]
      refine pb_b_c (pb_b_r h2) (fun q _ => ?_)
      unfold np_sB
      rw [if_neg (show ¬ np_n U + k < np_n U by omega), Nat.add_sub_cancel_left]
/-- joining: or, then -/
theorem pb_orP {L L1 : Nat → Nat → Int64} {s : Nat} {U V : np_A} (hU : pb_P L s U) (hV : pb_P L (s + np_n U) V) (e : ∀ p, p < s + np_n U + np_n V → L1 506 p = L 506 p ∧ L1 507 p = L 507 p) : pb_P L1 s (np_or U V) :=
  pb_side hU hV rfl rfl (fun _ _ => false) rfl (fun p hp => (e p hp).1) (fun p hp => by
    rw [(e (s + p) (by omega)).2]
    exact pb_b_l (hU p hp).2 _) (fun p hp => (e _ (by omega)).2)
theorem pb_thenP {L L1 : Nat → Nat → Int64} {s t : Nat} {U V : np_A} {ones to : Int64} (hU : pb_P L s U) (hV : pb_P L (s + np_n U) V) (h64 : s + np_n U + np_n V ≤ 64) (ht : s + np_n U + np_n V ≤ t) (h1 : pb_b ones s (np_n U) (np_L U)) (h2 : pb_b to (s + np_n U) (np_n V) (np_F V)) (e : ∀ p, p < s + np_n U + np_n V → L1 506 p = L 506 p ∧ L1 507 p = pb_ld L t ones to 507 p) : pb_P L1 s (np_then U V) := by
  refine pb_side hU hV rfl rfl (fun p q => np_L U p && np_F V q) rfl (fun p hp => (e p hp).1) (fun p hp => ?_) (fun p hp => ?_)
  · rw [(e (s + p) (by omega)).2]
    have hl := pb_b_at h1 hp (by omega)
    unfold pb_ld
    by_cases c : nb ones (s + p) = true
    · rw [if_pos ⟨rfl, by omega, c⟩]
      rw [c] at hl
      refine pb_b_c (pb_b_or (hU p hp).2 h2) (fun q _ => ?_)
      rw [← hl, Bool.true_and]
    · rw [if_neg (fun z => c z.2.2)]
      rw [Bool.eq_false_iff.mpr c] at hl
      refine pb_b_c (pb_b_l (hU p hp).2 (np_n V)) (fun q _ => ?_)
      rw [← hl, Bool.false_and]
  · rw [(e _ (by omega)).2]
    unfold pb_ld
    rw [if_neg (fun z => pb_b_out h1 (by omega) (by omega) z.2.2)]
theorem pb_starP {L L1 : Nat → Nat → Int64} {s t : Nat} {b : Bool} {U : np_A} {ones to : Int64} (hU : pb_P L s U) (h64 : s + np_n U ≤ 64) (ht : s + np_n U ≤ t) (h1 : pb_b ones s (np_n U) (np_L U)) (h2 : pb_b to s (np_n U) (np_F U)) (e : ∀ p, p < s + np_n U → L1 506 p = L 506 p ∧ L1 507 p = pb_ld L t ones to 507 p) : pb_P L1 s (np_star b U) := fun p hp => by
  have hp : p < np_n U := hp
  obtain ⟨g1, g2⟩ := e (s + p) (by omega)
  obtain ⟨k1, k2⟩ := hU p hp
  refine ⟨fun v hv => by rw [g1]; exact k1 v hv, ?_⟩
  show pb_b (L1 507 (s + p)) s (np_n U) (fun q => np_B U p q || (np_L U p && np_F U q))
  rw [g2]
  have hl := pb_b_at h1 hp (by omega)
  unfold pb_ld
  by_cases c : nb ones (s + p) = true
  · rw [if_pos ⟨rfl, by omega, c⟩]
    rw [c] at hl
    refine pb_b_c (pb_b_o2 k2 h2) (fun q _ => ?_)
    rw [← hl, Bool.true_and]
  · rw [if_neg (fun z => c z.2.2)]
    rw [Bool.eq_false_iff.mpr c] at hl
    refine pb_b_c k2 (fun q _ => ?_)
    rw [← hl, Bool.false_and, Bool.or_false]
/-- places below those that lead on stay as they are -/
theorem pb_ld_lo {L : Nat → Nat → Int64} {s n t p : Nat} {ones to : Int64} {f : Nat → Bool} (h1 : pb_b ones s n f) (hp : p < s) (h : s ≤ 64) : pb_ld L t ones to 507 p = L 507 p := if_neg (fun z => pb_b_out h1 (by omega) (by omega) z.2.2)
theorem pb_ld_6 {L : Nat → Nat → Int64} {t c p : Nat} {ones to : Int64} (h : ¬ c = 507) : pb_ld L t ones to c p = L c p := if_neg (fun z => h z.1)
/-- fusing: what stands before the first pair -/
theorem pb_f0 {L : Nat → Nat → Int64} {s : Nat} {U V : np_A} (hU : pb_P L s U) (hV : pb_P L (s + np_n U) V) : pb_P L s (np_fuse U V []) := by
  have h := pb_orP hU hV (L1 := L) (fun p _ => ⟨rfl, rfl⟩)
  intro p hp
  have hp : p < np_n U + np_n V := hp
  obtain ⟨h1, h2⟩ := h p hp
  refine ⟨fun v hv => ?_, ?_⟩
  · rw [h1 v hv]
    show np_sM U V p v = (if p < np_n U + np_n V then np_sM U V p else _) v
    rw [if_pos hp]
  · show pb_b (L 507 (s + p)) s (np_n U + np_n V) (np_B (np_fuse U V []) p)
    refine pb_b_c h2 (fun q hq => ?_)
    have hq : q < np_n U + np_n V := hq
    show np_sB U V (fun _ _ => false) p q = (if p < np_n U then (if q < np_n U then np_B U p q else if q < np_n U + np_n V then false else _) else if q < np_n U then false else if q < np_n U + np_n V then (if p < np_n U + np_n V then np_B V (p - np_n U) (q - np_n U) else _) else false)
    unfold np_sB
    rw [if_pos hp]
    by_cases c : p < np_n U
    · rw [if_pos c, if_pos c]
      by_cases c2 : q < np_n U
      · rw [if_pos c2, if_pos c2]
      · rw [if_neg c2, if_neg c2, if_pos hq]
    · rw [if_neg c, if_neg c, if_pos hq]
theorem np_x_l {xs : List (Nat × Nat)} {y : Nat × Nat} {k : Nat} (h : k < xs.length) : np_x (xs ++ [y]) k = np_x xs k := by
  unfold np_x
  rw [List.getElem?_append_left h]
theorem np_x_e {xs : List (Nat × Nat)} {y : Nat × Nat} : np_x (xs ++ [y]) xs.length = y := by
  unfold np_x
  rw [List.getElem?_append_right (Nat.le_refl _), Nat.sub_self]
  rfl
/-- the state behind a pair: places p of U lead to x where they lead to the pair's first -/
def pb_fr (L : Nat → Nat → Int64) (s : Nat) (k p : Nat) (one : Int64) : Nat → Nat → Int64 := fun c j => if c = 507 ∧ s ≤ j ∧ j < s + k ∧ nb (L 507 j) p = true then L 507 j ||| one else L c j
theorem pb_f1 {L L1 : Nat → Nat → Int64} {s p q t : Nat} {U V : np_A} {xs : List (Nat × Nat)} {one : Int64} (h : pb_P L s (np_fuse U V xs)) (hp : p < np_n U) (hq : q < np_n V) (ht : t = s + np_n U + np_n V + xs.length) (h64 : t < 64) (ho : ∀ j, j < 64 → nb one j = decide (j = t)) (e6 : ∀ j, j < t → L1 506 j = L 506 j) (e6t : L1 506 t = L 506 (s + p) &&& L 506 (s + np_n U + q)) (e7 : ∀ j, j < t → L1 507 j = pb_fr L s (np_n U) (s + p) one 507 j) (e7t : L1 507 t = L 507 (s + np_n U + q)) : pb_P L1 s (np_fuse U V (xs ++ [(p, q)])) := by
  have hn : np_n (np_fuse U V (xs ++ [(p, q)])) = np_n U + np_n V + xs.length + 1 := by
    show np_n U + np_n V + (xs ++ [(p, q)]).length = _
    rw [List.length_append]
    rfl
  have hn0 : np_n (np_fuse U V xs) = np_n U + np_n V + xs.length := rfl
  have hx : ∀ k, k < xs.length → np_x (xs ++ [(p, q)]) k = np_x xs k := fun k hk => np_x_l hk
  have hxe : np_x (xs ++ [(p, q)]) xs.length = (p, q) := np_x_e
  intro a ha
  rw [hn] at ha ⊢
  by_cases c : a = np_n U + np_n V + xs.length
  · subst c
    have et : s + (np_n U + np_n V + xs.length) = t := by omega
    rw [et, e6t, e7t]
    obtain ⟨g1, _⟩ := h p (by rw [hn0]; omega)
    obtain ⟨k1, k2⟩ := h (np_n U + q) (by rw [hn0]; omega)
    rw [← Nat.add_assoc] at k1 k2
    refine ⟨fun v hv => ?_, ?_⟩
    · rw [nb_and, g1 v hv, k1 v hv]
      show ((if p < np_n U + np_n V then np_sM U V p else _) v && (if np_n U + q < np_n U + np_n V then np_sM U V (np_n U + q) else _) v) = (if np_n U + np_n V + xs.length < np_n U + np_n V then np_sM U V _ else fun v => np_M U (np_x (xs ++ [(p, q)]) (np_n U + np_n V + xs.length - (np_n U + np_n V))).1 v && np_M V (np_x (xs ++ [(p, q)]) (np_n U + np_n V + xs.length - (np_n U + np_n V))).2 v) v
      rw [if_pos (by omega), if_pos (by omega), if_neg (by omega), Nat.add_sub_cancel_left, hxe, np_sM_1 hp, np_sM_2 (by omega), Nat.add_sub_cancel_left]
    · have k3 := pb_b_l k2 1
      rw [hn0] at k3
      refine pb_b_c k3 (fun j hj => ?_)
      have key : np_B (np_fuse U V (xs ++ [(p, q)])) (np_n U + np_n V + xs.length) j = (if j < np_n U then false else if j < np_n U + np_n V then np_B V q (j - np_n U) else false) := by
        show (if np_n U + np_n V + xs.length < np_n U then _ else if j < np_n U then false else if j < np_n U + np_n V then (if np_n U + np_n V + xs.length < np_n U + np_n V then _ else np_B V (np_x (xs ++ [(p, q)]) (np_n U + np_n V + xs.length - (np_n U + np_n V))).2 (j - np_n U)) else false) = _
        rw [if_neg (by omega), if_neg (show ¬ np_n U + np_n V + xs.length < np_n U + np_n V by omega), Nat.add_sub_cancel_left, hxe]
      have key2 : np_B (np_fuse U V xs) (np_n U + q) j = (if j < np_n U then false else if j < np_n U + np_n V then np_B V q (j - np_n U) else false) := by
        show (if np_n U + q < np_n U then _ else if j < np_n U then false else if j < np_n U + np_n V then (if np_n U + q < np_n U + np_n V then np_B V (np_n U + q - np_n U) (j - np_n U) else _) else false) = _
        rw [if_neg (by omega), if_pos (show np_n U + q < np_n U + np_n V by omega), Nat.add_sub_cancel_left]
      rw [key, key2]
      by_cases c1 : j < np_n U
      · rw [if_pos c1, ite_self]
      · rw [if_neg c1]
        by_cases c2 : j < np_n U + np_n V
        · rw [if_pos c2, if_pos (by omega)]
        · rw [if_neg c2, ite_self]
  · have ha0 : a < np_n U + np_n V + xs.length := by omega
    obtain ⟨g1, g2⟩ := h a (by rw [hn0]; exact ha0)
    rw [hn0] at g2
    refine ⟨fun v hv => ?_, ?_⟩
    · rw [e6 _ (by omega), g1 v hv]
      show (if a < np_n U + np_n V then np_sM U V a else fun v => np_M U (np_x xs (a - (np_n U + np_n V))).1 v && np_M V (np_x xs (a - (np_n U + np_n V))).2 v) v = (if a < np_n U + np_n V then np_sM U V a else fun v => np_M U (np_x (xs ++ [(p, q)]) (a - (np_n U + np_n V))).1 v && np_M V (np_x (xs ++ [(p, q)]) (a - (np_n U + np_n V))).2 v) v
      by_cases c2 : a < np_n U + np_n V
      · rw [if_pos c2, if_pos c2]
      · rw [if_neg c2, if_neg c2, hx _ (by omega)]
    · rw [e7 _ (by omega)]
      have old : ∀ j, j < np_n U + np_n V + xs.length → np_B (np_fuse U V (xs ++ [(p, q)])) a j = np_B (np_fuse U V xs) a j := by
        intro j hj
        show (if a < np_n U then (if j < np_n U then np_B U a j else if j < np_n U + np_n V then false else np_B U a (np_x (xs ++ [(p, q)]) (j - (np_n U + np_n V))).1) else if j < np_n U then false else if j < np_n U + np_n V then (if a < np_n U + np_n V then np_B V (a - np_n U) (j - np_n U) else np_B V (np_x (xs ++ [(p, q)]) (a - (np_n U + np_n V))).2 (j - np_n U)) else false) = (if a < np_n U then (if j < np_n U then np_B U a j else if j < np_n U + np_n V then false else np_B U a (np_x xs (j - (np_n U + np_n V))).1) else if j < np_n U then false else if j < np_n U + np_n V then (if a < np_n U + np_n V then np_B V (a - np_n U) (j - np_n U) else np_B V (np_x xs (a - (np_n U + np_n V))).2 (j - np_n U)) else false)
        by_cases c1 : a < np_n U
        · rw [if_pos c1, if_pos c1]
          by_cases c2 : j < np_n U
          · rw [if_pos c2, if_pos c2]
          · rw [if_neg c2, if_neg c2]
            by_cases c3 : j < np_n U + np_n V
            · rw [if_pos c3, if_pos c3]
            · rw [if_neg c3, if_neg c3, hx _ (by omega)]
        · rw [if_neg c1, if_neg c1]
          by_cases c2 : a < np_n U + np_n V
          · rw [if_pos c2, if_pos c2]
          · rw [if_neg c2, if_neg c2, hx _ (by omega)]
      have new : np_B (np_fuse U V (xs ++ [(p, q)])) a (np_n U + np_n V + xs.length) = (if a < np_n U then np_B U a p else false) := by
        show (if a < np_n U then (if np_n U + np_n V + xs.length < np_n U then _ else if np_n U + np_n V + xs.length < np_n U + np_n V then false else np_B U a (np_x (xs ++ [(p, q)]) (np_n U + np_n V + xs.length - (np_n U + np_n V))).1) else if np_n U + np_n V + xs.length < np_n U then false else if np_n U + np_n V + xs.length < np_n U + np_n V then _ else false) = _
        rw [if_neg (show ¬ np_n U + np_n V + xs.length < np_n U by omega), if_neg (show ¬ np_n U + np_n V + xs.length < np_n U + np_n V by omega), Nat.add_sub_cancel_left, hxe]
        by_cases c1 : a < np_n U
        · rw [if_pos c1, if_pos c1]
        · rw [if_neg c1, if_neg c1, if_neg (show ¬ np_n U + np_n V + xs.length < np_n U by omega), if_neg (show ¬ np_n U + np_n V + xs.length < np_n U + np_n V by omega)]
      have bit : a < np_n U → nb (L 507 (s + a)) (s + p) = np_B U a p := fun c1 => by
        rw [pb_b_at g2 (by omega) (by omega)]
        show (if a < np_n U then (if p < np_n U then np_B U a p else _) else _) = _
        rw [if_pos c1, if_pos hp]
      have one1 : pb_b one s (np_n U + np_n V + xs.length + 1) (fun j => decide (j = np_n U + np_n V + xs.length)) := fun j hj => by
        rw [ho j hj, decide_eq_true_iff]
        constructor
        · intro e
          exact ⟨by omega, by omega, decide_eq_true (by omega)⟩
        · rintro ⟨z1, z2, z3⟩
          have := of_decide_eq_true z3
          omega
      unfold pb_fr
      by_cases c1 : (507 : Nat) = 507 ∧ s ≤ s + a ∧ s + a < s + np_n U ∧ nb (L 507 (s + a)) (s + p) = true
      · rw [if_pos c1]
        refine pb_b_c (pb_b_o2 (pb_b_l g2 1) one1) (fun j hj => ?_)
        by_cases c2 : j < np_n U + np_n V + xs.length
        · rw [if_pos c2, decide_eq_false (by omega), Bool.or_false, old j c2]
        · have ej : j = np_n U + np_n V + xs.length := by omega
          subst ej
          rw [if_neg c2, decide_eq_true rfl, new, if_pos (by omega), ← bit (by omega), c1.2.2.2]
          rfl
      · rw [if_neg c1]
        refine pb_b_c (pb_b_l g2 1) (fun j hj => ?_)
        by_cases c2 : j < np_n U + np_n V + xs.length
        · rw [if_pos c2, old j c2]
        · have ej : j = np_n U + np_n V + xs.length := by omega
          subst ej
          rw [if_neg c2, new]
          by_cases c3 : a < np_n U
          · rw [if_pos c3, ← bit c3]
            cases e : nb (L 507 (s + a)) (s + p) with
            | false => rfl
            | true => exact (c1 ⟨rfl, by omega, by omega, e⟩).elim
          · rw [if_neg c3]
/-- first and last ones while pairs are made -/
theorem pb_f0F {s : Nat} {U V : np_A} {x : Int64} (h : pb_b x s (np_n U) (np_F U)) : pb_b x s (np_n U + np_n V) (np_F (np_fuse U V [])) := pb_b_c (pb_b_l h (np_n V)) (fun q hq => by
  show _ = (if q < np_n U then np_F U q else if q < np_n U + np_n V then false else _)
  by_cases c : q < np_n U
  · rw [if_pos c, if_pos c]
  · rw [if_neg c, if_neg c, if_pos hq])
theorem pb_f0L {s : Nat} {U V : np_A} {x : Int64} (h : pb_b x (s + np_n U) (np_n V) (np_L V)) : pb_b x s (np_n U + np_n V) (np_L (np_fuse U V [])) := pb_b_c (pb_b_r h) (fun q hq => by
  show _ = (if q < np_n U then false else if q < np_n U + np_n V then np_L V (q - np_n U) else _)
  by_cases c : q < np_n U
  · rw [if_pos c, if_pos c]
  · rw [if_neg c, if_neg c, if_pos hq])
theorem pb_f1b {x one : Int64} {s n t : Nat} {f g : Nat → Bool} {b : Bool} (h : pb_b x s n f) (ht : t = s + n) (ho : ∀ j, j < 64 → nb one j = decide (j = t)) (e1 : ∀ j, j < n → g j = f j) (e2 : g n = b) : pb_b (x ||| (if b = true then one else 0)) s (n + 1) g := by
  have one1 : pb_b (if b = true then one else 0) s (n + 1) (fun j => decide (j = n) && b) := fun j hj => by
    cases b with
    | false =>
      rw [if_neg (by decide), nb_0]
      simp
    | true =>
      rw [if_pos rfl, ho j hj, decide_eq_true_iff]
      simp only [Bool.and_true, decide_eq_true_iff]
      omega
  refine pb_b_c (pb_b_o2 (pb_b_l h 1) one1) (fun j hj => ?_)
  by_cases c : j < n
  · rw [if_pos c, decide_eq_false (by omega), Bool.false_and, Bool.or_false, e1 j c]
  · have ej : j = n := by omega
    subst ej
    rw [if_neg c, decide_eq_true rfl, Bool.true_and, Bool.false_or, e2]
theorem np_f1F {U V : np_A} {xs : List (Nat × Nat)} {p q : Nat} : (∀ j, j < np_n U + np_n V + xs.length → np_F (np_fuse U V (xs ++ [(p, q)])) j = np_F (np_fuse U V xs) j ∧ np_L (np_fuse U V (xs ++ [(p, q)])) j = np_L (np_fuse U V xs) j) ∧ np_F (np_fuse U V (xs ++ [(p, q)])) (np_n U + np_n V + xs.length) = np_F U p ∧ np_L (np_fuse U V (xs ++ [(p, q)])) (np_n U + np_n V + xs.length) = np_L V q := by
  refine ⟨fun j hj => ⟨?_, ?_⟩, ?_, ?_⟩
  · show (if j < np_n U then np_F U j else if j < np_n U + np_n V then false else np_F U (np_x (xs ++ [(p, q)]) (j - (np_n U + np_n V))).1) = (if j < np_n U then np_F U j else if j < np_n U + np_n V then false else np_F U (np_x xs (j - (np_n U + np_n V))).1)
    by_cases c : j < np_n U
    · rw [if_pos c, if_pos c]
    · rw [if_neg c, if_neg c]
      by_cases c2 : j < np_n U + np_n V
      · rw [if_pos c2, if_pos c2]
      · rw [if_neg c2, if_neg c2, np_x_l (by omega)]
  · show (if j < np_n U then false else if j < np_n U + np_n V then np_L V (j - np_n U) else np_L V (np_x (xs ++ [(p, q)]) (j - (np_n U + np_n V))).2) = (if j < np_n U then false else if j < np_n U + np_n V then np_L V (j - np_n U) else np_L V (np_x xs (j - (np_n U + np_n V))).2)
    by_cases c : j < np_n U
    · rw [if_pos c, if_pos c]
    · rw [if_neg c, if_neg c]
      by_cases c2 : j < np_n U + np_n V
      · rw [if_pos c2, if_pos c2]
      · rw [if_neg c2, if_neg c2, np_x_l (by omega)]
  · show (if np_n U + np_n V + xs.length < np_n U then np_F U _ else if np_n U + np_n V + xs.length < np_n U + np_n V then false else np_F U (np_x (xs ++ [(p, q)]) (np_n U + np_n V + xs.length - (np_n U + np_n V))).1) = _
    rw [if_neg (by omega), if_neg (by omega), Nat.add_sub_cancel_left, np_x_e]
  · show (if np_n U + np_n V + xs.length < np_n U then false else if np_n U + np_n V + xs.length < np_n U + np_n V then np_L V _ else np_L V (np_x (xs ++ [(p, q)]) (np_n U + np_n V + xs.length - (np_n U + np_n V))).2) = _
    rw [if_neg (by omega), if_neg (by omega), Nat.add_sub_cancel_left, np_x_e]
end PB
