/-! ===== how the class holds what has been read ===== -/
/-- the least length of a token, and of all before one -/
def tl (k : Int32) : Nat := if k = (Int8.ofInt 26).toInt32 then 6 else if k = (Int8.ofInt 28).toInt32 then 4 else if k = (Int8.ofInt 27).toInt32 then 5 else if k = (Int8.ofInt 31).toInt32 then 3 else if k = (Int8.ofInt 29).toInt32 then 5 else if k = (Int8.ofInt 30).toInt32 then 6 else if k = (Int8.ofInt 17).toInt32 then 2 else if k = (Int8.ofInt 18).toInt32 then 3 else if k = (Int8.ofInt 19).toInt32 then 3 else 1
theorem tl_1 (k : Int32) : 1 ≤ tl k := by
  unfold tl
  repeat' split
  all_goals omega
def wl (ts : List wt_t) : Nat → Nat
  | 0 => 0
  | i + 1 => wl ts i + (match ts[i]? with | some x => tl x.1 | none => 0)
theorem wl_mono {ts : List wt_t} : ∀ {j i : Nat}, i ≤ j → j ≤ ts.length → wl ts i + (j - i) ≤ wl ts j
  | 0, i, h, _ => by
    have : i = 0 := by omega
    subst this
    exact Nat.le_refl _
  | j + 1, i, h, hj => by
    by_cases e : i = j + 1
    · subst e
      omega
    · have ih := wl_mono (ts := ts) (j := j) (i := i) (by omega) (by omega)
      have hx : ts[j]? = some ts[j] := List.getElem?_eq_getElem (by omega)
      have e2 : wl ts (j + 1) = wl ts j + tl ts[j].1 := by
        show wl ts j + (match ts[j]? with | some x => tl x.1 | none => 0) = _
        rw [hx]
      have := tl_1 ts[j].1
      omega
theorem wl_adv {ts : List wt_t} {s : wt_q} {k : Int32} (h : tk_now ts s = k) (hk : ¬ k = Int32.ofInt 2) : wl ts (s.1 + 1) = wl ts s.1 + tl k := by
  obtain ⟨a, f⟩ := s
  unfold tk_now at h
  cases f with
  | some z => exact absurd h.symm hk
  | none =>
    cases e : ts[a]? with
    | none =>
      rw [e] at h
      exact absurd h.symm hk
    | some t =>
      rw [e] at h
      have h : t.1 = k := h
      show wl ts a + (match ts[a]? with | some x => tl x.1 | none => 0) = _
      rw [e]
      show wl ts a + tl t.1 = _
      rw [h]
/-- the class's memory of a part -/
def pq_1 (I : Nat → Nat → Int32) (L : Nat → Nat → Int64) (C : Nat) (P : pd_P) (i : Nat) : Prop := I (C + 1) i = Int32.ofNat (pd_k P i) ∧ pd_k P i ≤ 10 ∧ I (C + 4) i = Int32.ofNat (pd_t P i) ∧ pd_t P i ≤ 9 ∧ I (C + 5) i = Int32.ofNat (pd_l P i) ∧ pd_l P i ≤ 155 ∧ (∀ u, u < 64 → nb (L (C + 2) i) u = pd_c P i u) ∧ ∀ u, u < 64 → nb (L (C + 3) i) u = pd_d P i u
def pq_M (I : Nat → Nat → Int32) (L : Nat → Nat → Int64) (C : Nat) (P : pd_P) (m : Nat) : Prop := I C 8 = Int32.ofNat m ∧ m ≤ 155 ∧ pd_m P ≤ m ∧ ∀ i, i < pd_m P → pq_1 I L C P i
theorem pq_1_c {I J : Nat → Nat → Int32} {L M : Nat → Nat → Int64} {C i : Nat} {P P2 : pd_P} (h : pq_1 I L C P i) (hI : ∀ c, c = C + 1 ∨ c = C + 4 ∨ c = C + 5 → J c i = I c i) (hL : ∀ c, c = C + 2 ∨ c = C + 3 → M c i = L c i) (hP : pd_E P P2 i) : pq_1 J M C P2 i := by
  obtain ⟨e1, e2, e3, e4, e5, e6⟩ := hP
  unfold pq_1
  rw [hI _ (Or.inl rfl), hI _ (Or.inr (Or.inl rfl)), hI _ (Or.inr (Or.inr rfl)), hL _ (Or.inl rfl), hL _ (Or.inr rfl), e1, e2, e3, e4, e5]
  exact h
theorem pd_E_id {P : pd_P} {i : Nat} : pd_E P P i := ⟨rfl, rfl, rfl, rfl, rfl, rfl⟩
theorem pq_M_c {I J : Nat → Nat → Int32} {L M : Nat → Nat → Int64} {C m : Nat} {P : pd_P} (h : pq_M I L C P m) (hI : ∀ c j, c = C ∨ c = C + 1 ∨ c = C + 4 ∨ c = C + 5 → J c j = I c j) (hL : ∀ c j, c = C + 2 ∨ c = C + 3 → M c j = L c j) : pq_M J M C P m := ⟨by rw [hI _ _ (Or.inl rfl)]; exact h.1, h.2.1, h.2.2.1, fun i hi => pq_1_c (h.2.2.2 i hi) (fun c hc => hI _ _ (Or.inr hc)) (fun c hc => hL _ _ hc) pd_E_id⟩
/-- parens open -/
def pq_s (I : Nat → Nat → Int32) : List (Nat × Bool) → Prop
  | [] => True
  | x :: ps => I 19 ps.length = Int32.ofNat x.1 ∧ I 20 ps.length = wb_i x.2 ∧ pq_s I ps
def pq_P (I : Nat → Nat → Int32) (ps : List (Nat × Bool)) : Prop := I 9 5 = Int32.ofNat ps.length ∧ pq_s I ps
theorem pq_s_c {I J : Nat → Nat → Int32} : ∀ {ps : List (Nat × Bool)}, pq_s I ps → (∀ c k, c = 19 ∨ c = 20 → k < ps.length → J c k = I c k) → pq_s J ps
  | [], _, _ => trivial
  | x :: ps, h, hJ => ⟨by rw [hJ _ _ (Or.inl rfl) (Nat.lt_succ_self _)]; exact h.1, by rw [hJ _ _ (Or.inr rfl) (Nat.lt_succ_self _)]; exact h.2.1, pq_s_c h.2.2 (fun c k hc hk => hJ c k hc (Nat.lt_succ_of_lt hk))⟩
theorem pq_P_c {I J : Nat → Nat → Int32} {ps : List (Nat × Bool)} (h : pq_P I ps) (h5 : J 9 5 = I 9 5) (hJ : ∀ c k, c = 19 ∨ c = 20 → J c k = I c k) : pq_P J ps := ⟨h5.trans h.1, pq_s_c h.2 (fun c k hc _ => hJ c k hc)⟩
def pq_w : List (Nat × Bool) → Nat
  | [] => 0
  | x :: ps => (if x.2 = true then 2 else 1) + pq_w ps
theorem pq_w_le : ∀ (ps : List (Nat × Bool)), pq_w ps ≤ 2 * ps.length
  | [] => Nat.le_refl _
  | x :: ps => by
    have := pq_w_le ps
    show (if x.2 = true then 2 else 1) + pq_w ps ≤ 2 * (ps.length + 1)
    split <;> omega
theorem cp_fr_len {P : pd_P} {S : rn_N} {Q : Nat → Prop} {pa pb : Nat → Nat} : ∀ {fr : List ap_F} {ps : List (Nat × Bool)} {fp : List Nat} {e : Nat}, cp_fr P S Q pa pb fr ps fp e → ps.length = ap_o fr
  | [], _, _, _, h => by rw [h.1]; rfl
  | f :: fr, ps, fp, e, h => by
    obtain ⟨a, fp2, rfl, hae, hlt, h⟩ := h
    have eo : ap_o (f :: fr) = (if f.1 = 29 ∨ f.1 = 15 then 1 else 0) + ap_o fr := rfl
    rcases h with ⟨g1, g2, g3, g4⟩ | ⟨g1, g2, g3, g4, g5⟩ | ⟨g1, g2, g3, g4, g5, g6⟩ | ⟨g1, g2, g3, g4, g5, g6⟩ | ⟨g1, g2, g3, g4, g5, g6⟩ | ⟨g1, g2, g3, ps2, rfl, g5⟩ | ⟨g1, g2, g3, g4, g5, g6, g7, ps2, rfl, g9⟩
    · rw [eo, if_neg (by omega), cp_fr_len g4]; omega
    · rw [eo, if_neg (by omega), cp_fr_len g5]; omega
    · rw [eo, if_neg (by omega), cp_fr_len g6]; omega
    · rw [eo, if_neg (by omega), cp_fr_len g6]; omega
    · rw [eo, if_neg (by omega), cp_fr_len g6]; omega
    · rw [eo, if_pos (Or.inl g1)]
      have := cp_fr_len g5
      simp only [List.length_cons]
      omega
    · rw [eo, if_pos (Or.inr g1)]
      have := cp_fr_len g9
      simp only [List.length_cons]
      omega
theorem cR_len {P : pd_P} {ps : List (Nat × Bool)} {S : rn_N} {fr : List ap_F} {p : Option Nat} (h : cR P ps S fr p) : ps.length = ap_o fr := by
  obtain ⟨Q, pa, pb, fp, e, h1, h2, h3, _⟩ := h
  exact cp_fr_len h3
/-- the class's sequences -/
def pq_S (T : wv_T) (I : Nat → Nat → Int32) (L : Nat → Nat → Int64) (R : Nat → Nat → Option Nat) (C : Nat) (S : rn_N) (sq : List Nat) (P : pd_P) : Prop := I C 9 = Int32.ofNat sq.length ∧ (∀ k y, sq[k]? = some y → y < rn_n S ∧ ∃ g, sq_D T I L R (C + 9 + k) (rn_t S y) (rn_w S y) g ∧ ni_A g (rn_t S y)) ∧ ∀ i, i < pd_m P → (1 ≤ pd_k P i ∧ pd_k P i ≤ 3) ∨ pd_k P i = 6 → ∃ y, sq[pd_l P i]? = some y ∧ pd_a P i = rn_t S y
/-- all sequences' objects -/
def pq_q (Q : Nat) : Prop := ∃ C k, (C = 28 ∨ C = 124 ∨ C = 220 ∨ C = 346) ∧ k < 67 ∧ Q = C + 9 + k
def pq_O (T : wv_T) (N : Nat) (R : Nat → Nat → Option Nat) : Prop := ∀ Q, pq_q Q → ∃ B len, sq_O T R Q B len ∧ (0 < len → B < N) ∧ ∀ Q2, pq_q Q2 → ¬ Q2 = Q → 0 < len → ¬ R Q2 0 = some B
theorem sq_D_c {T T1 : wv_T} {I I1 : Nat → Nat → Int32} {L L1 : Nat → Nat → Int64} {R R1 : Nat → Nat → Option Nat} {Q w g : Nat} {A : nt_A} (h : sq_D T I L R Q A w g) (hI : ∀ j, I1 Q j = I Q j) (hL : ∀ j, L1 Q j = L Q j) (hR : R1 Q 0 = R Q 0) (hT : ∀ c, ¬ T c = none → T1 c = T c) (hB : ∀ B len, R Q 0 = some B → T B = some (.inr (1, len)) → 0 < len → ∀ j, L1 B j = L B j) : sq_D T1 I1 L1 R1 Q A w g := by
  obtain ⟨a1, a2, a3, a4, a5, a6, a7, a8, B, len, b1, b2, b3, b4⟩ := h
  refine ⟨by rw [hT Q (by rw [a1]; simp)]; exact a1, by rw [hI]; exact a2, by rw [hI]; exact a3, by rw [hI]; exact a4, a5, a6, by rw [hL]; exact a7, by rw [hL]; exact a8, B, len, by rw [hR]; exact b1, by rw [hT B (by rw [b2]; simp)]; exact b2, b3, fun s v t h1 h2 h3 h4 => ?_⟩
  rw [hB B len b1 b2 (by omega)]
  exact b4 s v t h1 h2 h3 h4
