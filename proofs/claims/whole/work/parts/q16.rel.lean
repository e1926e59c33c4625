/-! ===== how the two objects stand to one another: designs, room, all ===== -/
def rl_d (T : wv_T) (N : Nat) (I : rl_I) (R : rl_R) (C D : Nat) (a b g : Nat) (nx : Nat → Nat) (fi : Nat → Bool) (sg on tw : Nat → Nat) (V cp : Nat → Nat) (z : Nat → List Nat) : Prop := ((C = 442 ∧ D = 451) ∨ (C = 451 ∧ D = 442)) ∧ (R 0 14 = some C ∧ R 0 15 = some D) ∧ dz_V a b g nx fi sg on tw ∧ tw_N C a b g nx fi sg on tw I ∧ tw_M a b g nx fi sg on tw I ∧ (I 322 0 = 0 ∧ I 448 0 = 0 ∧ I 457 0 = 0) ∧ (∀ E, (E = 442 ∨ E = 451) → bu_D T I R (E + 7) (V E) (cp E) (z E) ∧ (V E = E + 8 ∨ (536 < V E ∧ V E < N))) ∧ ¬ V 442 = V 451 ∧ (¬ I C 7 = 0 → z C = tw_T a b g nx fi sg on tw)
theorem bu_D_c {T T1 : wv_T} {I J : rl_I} {R R1 : rl_R} {B V cap : Nat} {z : List Nat} (h : bu_D T I R B V cap z) (hT : rl_m T T1) (hR : R1 B 0 = R B 0) (h1 : ∀ j, J B j = I B j) (h2 : ∀ j, J V j = I V j) : bu_D T1 J R1 B V cap z := by
  obtain ⟨⟨a1, a2, a3, a4, a5, a6, a7, a8⟩, b1, b2, b3, b4⟩ := h
  refine ⟨⟨hT _ _ a1, by rw [hR]; exact a2, by rw [h1]; exact a3, hT _ _ a4, a5, a6, a7, a8⟩, by rw [h1]; exact b1, b2, fun k hk => by rw [h2]; exact b3 k hk, fun k c hk => by rw [h2]; exact b4 k c hk⟩
theorem tw_N_c {C : Nat} {a b g : Nat} {nx : Nat → Nat} {fi : Nat → Bool} {sg on tw : Nat → Nat} {I J : rl_I} (h : tw_N C a b g nx fi sg on tw I) (h0 : ∀ j, 8 ≤ j → j ≤ 10 → J C j = I C j) (hI : ∀ c j, C < c → c ≤ C + 5 → J c j = I c j) : tw_N C a b g nx fi sg on tw J := by
  obtain ⟨n1, n2, n3, n4, n5, n6⟩ := h
  exact ⟨(h0 _ (by omega) (by omega)).trans n1, (h0 _ (by omega) (by omega)).trans n2, (h0 _ (by omega) (by omega)).trans n3, fun i hi => ⟨(hI _ _ (by omega) (by omega)).trans (n4 i hi).1, (hI _ _ (by omega) (by omega)).trans (n4 i hi).2⟩, fun i hi => (hI _ _ (by omega) (by omega)).trans (n5 i hi), fun i hi => ⟨(hI _ _ (by omega) (by omega)).trans (n6 i hi).1, (hI _ _ (by omega) (by omega)).trans (n6 i hi).2⟩⟩
theorem tw_M_c {a b g : Nat} {nx : Nat → Nat} {fi : Nat → Bool} {sg on tw : Nat → Nat} {I J : rl_I} (h : tw_M a b g nx fi sg on tw I) (h0 : ∀ j, 56 ≤ j → j ≤ 58 → J 460 j = I 460 j) (hI : ∀ c j, 496 ≤ c → c ≤ 500 → J c j = I c j) : tw_M a b g nx fi sg on tw J := by
  obtain ⟨n1, n2, n3, n4, n5, n6⟩ := h
  exact ⟨(h0 _ (by omega) (by omega)).trans n1, (h0 _ (by omega) (by omega)).trans n2, (h0 _ (by omega) (by omega)).trans n3, fun i hi => ⟨(hI _ _ (by omega) (by omega)).trans (n4 i hi).1, (hI _ _ (by omega) (by omega)).trans (n4 i hi).2⟩, fun i hi => (hI _ _ (by omega) (by omega)).trans (n5 i hi), fun i hi => ⟨(hI _ _ (by omega) (by omega)).trans (n6 i hi).1, (hI _ _ (by omega) (by omega)).trans (n6 i hi).2⟩⟩
theorem rl_d_c {T T1 : wv_T} {N N1 : Nat} {I J : rl_I} {R R1 : rl_R} {C D : Nat} {a b g : Nat} {nx : Nat → Nat} {fi : Nat → Bool} {sg on tw : Nat → Nat} {V cp : Nat → Nat} {z : Nat → List Nat} (h : rl_d T N I R C D a b g nx fi sg on tw V cp z) (hT : rl_m T T1) (hN : N ≤ N1) (hI : ∀ c j, 442 ≤ c → c < 460 → J c j = I c j) (h322 : J 322 0 = I 322 0) (h460 : ∀ j, 56 ≤ j → j ≤ 58 → J 460 j = I 460 j) (h496 : ∀ c j, 496 ≤ c → c ≤ 500 → J c j = I c j) (hV : ∀ E j, (E = 442 ∨ E = 451) → 536 < V E → J (V E) j = I (V E) j) (hR : R1 0 14 = R 0 14 ∧ R1 0 15 = R 0 15 ∧ R1 449 0 = R 449 0 ∧ R1 458 0 = R 458 0) : rl_d T1 N1 J R1 C D a b g nx fi sg on tw V cp z := by
  obtain ⟨h1, ⟨h2, h3⟩, h4, h5, h6, ⟨h7, h8, h9⟩, h10, h11, h12⟩ := h
  refine ⟨h1, ⟨by rw [hR.1]; exact h2, by rw [hR.2.1]; exact h3⟩, h4, ?_, tw_M_c h6 h460 h496, ⟨by rw [h322]; exact h7, by rw [hI _ _ (by omega) (by omega)]; exact h8, by rw [hI _ _ (by omega) (by omega)]; exact h9⟩, fun E hE => ?_, h11, fun w => h12 ?_⟩
  · rcases h1 with ⟨rfl, rfl⟩ | ⟨rfl, rfl⟩
    · exact tw_N_c h5 (fun j _ _ => hI _ _ (by omega) (by omega)) (fun c j _ _ => hI _ _ (by omega) (by omega))
    · exact tw_N_c h5 (fun j _ _ => hI _ _ (by omega) (by omega)) (fun c j _ _ => hI _ _ (by omega) (by omega))
  · obtain ⟨b1, b2⟩ := h10 E hE
    refine ⟨bu_D_c b1 hT ?_ (fun j => hI _ _ (by omega) (by omega)) (fun j => ?_), by omega⟩
    · rcases hE with rfl | rfl
      · exact hR.2.2.1
      · exact hR.2.2.2
    · rcases b2 with e | e
      · exact hI _ _ (by omega) (by omega)
      · exact hV E j hE e.1
  · rw [← hI C 7 (by omega) (by omega)]
    exact w
/-- how many tables there are -/
def rl_es : List Nat := [104, 109, 114, 119, 200, 205, 210, 215, 296, 301, 306, 311, 422, 427, 432, 437]
def rl_tn (tb : Nat → Bool) : List Nat → Nat
  | [] => 0
  | E :: l => (if tb E = true then 1 else 0) + rl_tn tb l
theorem rl_tn_le (tb : Nat → Bool) : ∀ l, rl_tn tb l ≤ l.length
  | [] => Nat.le_refl _
  | E :: l => by
    have := rl_tn_le tb l
    show (if tb E = true then 1 else 0) + rl_tn tb l ≤ l.length + 1
    split <;> omega
theorem rl_tn_u {tb : Nat → Bool} {E : Nat} (h : tb E = false) : ∀ l : List Nat, l.Nodup → E ∈ l → rl_tn (fun c => if c = E then true else tb c) l = rl_tn tb l + 1 := by
  have no : ∀ l : List Nat, ¬ E ∈ l → rl_tn (fun c => if c = E then true else tb c) l = rl_tn tb l := by
    intro l
    induction l with
    | nil => exact fun _ => rfl
    | cons x l ih =>
      intro hx
      have h1 : ¬ x = E := fun e => hx (by rw [e]; exact List.mem_cons_self)
      show (if (if x = E then true else tb x) = true then 1 else 0) + _ = (if tb x = true then 1 else 0) + _
      rw [if_neg h1, ih (fun e => hx (List.mem_cons_of_mem _ e))]
  intro l
  induction l with
  | nil => exact fun _ w => absurd w (by simp)
  | cons x l ih =>
    intro hn hm
    obtain ⟨n1, n2⟩ := List.nodup_cons.mp hn
    show (if (if x = E then true else tb x) = true then 1 else 0) + rl_tn _ l = (if tb x = true then 1 else 0) + rl_tn tb l + 1
    by_cases e : x = E
    · subst e
      rw [if_pos rfl, if_pos rfl, h, no l n1]
      simp
      omega
    · rw [if_neg e, ih n2 (by rcases List.mem_cons.mp hm with w | w; exact (e w.symm).elim; exact w)]
      omega
theorem rl_E_in {E : Nat} (h : rl_E E) : E ∈ rl_es ∧ 104 ≤ E ∧ E ≤ 437 := by
  obtain ⟨C, k, hC, hk, rfl⟩ := h
  have : k = 0 ∨ k = 1 ∨ k = 2 ∨ k = 3 := by omega
  rcases hC with rfl | rfl | rfl | rfl
  all_goals rcases this with rfl | rfl | rfl | rfl
  all_goals exact ⟨by decide, by decide, by decide⟩
/-- room -/
def rl_N (N nc ns i n lk : Nat) (tb : Nat → Bool) (cp : Nat → Nat) : Prop := N ≤ nc + 600 ∧ 3 * nc + n ≤ i + 3 * rl_tn tb rl_es + 3 * lk + cp 442 + cp 451 + 1700 ∧ 3 * ns + 2624 * n ≤ 2624 * i + 12672 * rl_tn tb rl_es + 149604 * lk + 6 * (cp 442 + cp 451) + 1300000
theorem rl_N_b {N nc ns i n lk : Nat} {tb : Nat → Bool} {cp : Nat → Nat} (h : rl_N N nc ns i n lk tb cp) (hi : i ≤ 2052) (hl : lk ≤ 5) (h1 : cp 442 < 100000) (h2 : cp 451 < 100000) : N < 100000 ∧ nc ≤ 601024 ∧ ns ≤ 7293034 := by
  have := rl_tn_le tb rl_es
  have e : rl_es.length = 16 := rfl
  obtain ⟨a, b, c⟩ := h
  omega
/-- the property that always holds -/
def rl_Pt : pd_P := (1, fun _ => 0, fun _ _ => true, fun _ _ => false, fun _ => 0, fun _ => 0, fun _ => nt_cond (fun _ => false))
def rl_3 (a b c : Nat) : Prop := (a = 28 ∨ a = 124 ∨ a = 346) ∧ (b = 28 ∨ b = 124 ∨ b = 346) ∧ (c = 28 ∨ c = 124 ∨ c = 346) ∧ ¬ a = b ∧ ¬ a = c ∧ ¬ b = c
def Rl_A (T : wv_T) (N : Nat) (I : rl_I) (L : rl_L) (R : rl_R) (n lk m : Nat) (v : Nat → Nat) (tb : Nat → Bool) : Prop := rl_F T R ∧ rl_X T I L R ∧ rl_O T N R tb ∧ rl_t n I ∧ rl_w m v I ∧ rl_k lk I ∧ rl_h I ∧ rl_e T I L R 220 rl_Pt rn_0 [] ∧ ∃ g, I 9 11 = Int32.ofNat g ∧ g < 64
def Rl_B (T : wv_T) (I : rl_I) (L : rl_L) (R : rl_R) (tb : Nat → Bool) (m : Nat) (v : Nat → Nat) (Cs : Nat) (C : Nat → Nat) (P : Nat → pd_P) (S : Nat → rn_N) (m0 x : Nat → Nat) (sq : Nat → List Nat) : Prop := rl_3 (C 0) (C 1) Cs ∧ R 0 13 = some Cs ∧ ∀ p, p < 2 → rl_p T I L R tb p m v (C p) (P p) (S p) (m0 p) (x p) (sq p)
def Rl (T : wv_T) (N : Nat) (I : rl_I) (L : rl_L) (R : rl_R) (nc ns i : Nat) : Prop := ∃ (n lk m : Nat) (v : Nat → Nat) (tb : Nat → Bool) (Cs : Nat) (C : Nat → Nat) (P : Nat → pd_P) (S : Nat → rn_N) (m0 x : Nat → Nat) (sq : Nat → List Nat) (Cd Dd a b g : Nat) (nx : Nat → Nat) (fi : Nat → Bool) (sg on tw : Nat → Nat) (V cp : Nat → Nat) (z : Nat → List Nat), Rl_A T N I L R n lk m v tb ∧ Rl_B T I L R tb m v Cs C P S m0 x sq ∧ rl_d T N I R Cd Dd a b g nx fi sg on tw V cp z ∧ rl_N N nc ns i n lk tb cp
