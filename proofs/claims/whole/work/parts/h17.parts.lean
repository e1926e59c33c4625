/-! ===== parts for what has been read ===== -/
/-- parts changed at one place -/
def pd_up (P : pd_P) (m i k : Nat) (c d : Nat → Bool) (t l : Nat) (a : nt_A) : pd_P := (m, rn_u (pd_k P) i k, rn_u (pd_c P) i c, rn_u (pd_d P) i d, rn_u (pd_t P) i t, rn_u (pd_l P) i l, rn_u (pd_a P) i a)
/-- two agree at a place -/
def pd_E (P P2 : pd_P) (i : Nat) : Prop := pd_k P2 i = pd_k P i ∧ pd_c P2 i = pd_c P i ∧ pd_d P2 i = pd_d P i ∧ pd_t P2 i = pd_t P i ∧ pd_l P2 i = pd_l P i ∧ pd_a P2 i = pd_a P i
theorem pd_up_no {P : pd_P} {m i k t l j : Nat} {c d : Nat → Bool} {a : nt_A} (h : ¬ j = i) : pd_E P (pd_up P m i k c d t l a) j := ⟨rn_u_no _ _ h, rn_u_no _ _ h, rn_u_no _ _ h, rn_u_no _ _ h, rn_u_no _ _ h, rn_u_no _ _ h⟩
theorem pd_up_at {P : pd_P} {m i k t l : Nat} {c d : Nat → Bool} {a : nt_A} : pd_k (pd_up P m i k c d t l a) i = k ∧ pd_c (pd_up P m i k c d t l a) i = c ∧ pd_d (pd_up P m i k c d t l a) i = d ∧ pd_t (pd_up P m i k c d t l a) i = t ∧ pd_l (pd_up P m i k c d t l a) i = l ∧ pd_a (pd_up P m i k c d t l a) i = a ∧ pd_m (pd_up P m i k c d t l a) = m := ⟨rn_u_at _ _ _, rn_u_at _ _ _, rn_u_at _ _ _, rn_u_at _ _ _, rn_u_at _ _ _, rn_u_at _ _ _, rfl⟩
theorem tr_eq_P {P P2 : pd_P} {x : nq_N} {c cl cr : Nat → Bool} {A : nt_A} {a b al bl ar br : Nat} (hE : pd_E P P2 a) (h : tr_eq P x c cl cr A a b al bl ar br) : tr_eq P2 x c cl cr A a b al bl ar br := by
  obtain ⟨e1, e2, e3, e4, e5, e6⟩ := hE
  unfold tr_eq at h ⊢
  rw [e1, e2, e3, e4, e5, e6]
  exact h
/-- nodes that have parts -/
def cq_Q (S : rn_N) (fp : List Nat) (Q : Nat → Prop) (pa : Nat → Nat) : Prop := ∀ x, Q x → x < rn_n S ∧ nq_l (rn_d S x) < rn_n S ∧ nq_r (rn_d S x) < rn_n S ∧ fl_prop (rn_k S x) ∧ ∀ a, a ∈ fp → ¬ pa x = a
/-- frames and parens, as parts: the frames' places, and where they end -/
def cp_fr (P : pd_P) (S : rn_N) (Q : Nat → Prop) (pa pb : Nat → Nat) : List ap_F → List (Nat × Bool) → List Nat → Nat → Prop
  | [], ps, fp, e => ps = [] ∧ fp = [] ∧ e = 0
  | f :: fr, ps, fp, e => ∃ a fp2, fp = a :: fp2 ∧ a < e ∧ (∀ i, i ∈ fp2 → i < a) ∧
    ((f.1 = 10 ∧ pd_k P a = 5 ∧ e = a + 1 ∧ cp_fr P S Q pa pb fr ps fp2 a) ∨
    (f.1 = 12 ∧ pd_k P a = 7 ∧ pd_t P a = f.2.2 ∧ e = a + 1 ∧ cp_fr P S Q pa pb fr ps fp2 a) ∨
    (f.1 = 31 ∧ f.2.1 < rn_n S ∧ pd_k P a = 4 ∧ (∀ v, v < 64 → pd_c P a v = rn_h S f.2.1 v) ∧ e = a + 1 ∧ cp_fr P S Q pa pb fr ps fp2 a) ∨
    (f.1 = 32 ∧ f.2.1 < rn_n S ∧ pd_k P a = 2 ∧ pd_a P a = rn_t S f.2.1 ∧ e = a + 1 ∧ cp_fr P S Q pa pb fr ps fp2 a) ∨
    (f.1 = 33 ∧ f.2.1 < rn_n S ∧ pd_k P a = 3 ∧ pd_a P a = rn_t S f.2.1 ∧ e = a + 1 ∧ cp_fr P S Q pa pb fr ps fp2 a) ∨
    (f.1 = 29 ∧ pd_k P a = 10 ∧ e = a + 1 ∧ ∃ ps2, ps = (a, true) :: ps2 ∧ cp_fr P S Q pa pb fr ps2 fp2 a) ∨
    (f.1 = 15 ∧ f.2.1 < rn_n S ∧ pd_k P a = 10 ∧ pd_l P a = e ∧ Q f.2.1 ∧ pa f.2.1 = a + 1 ∧ pb f.2.1 = e ∧ ∃ ps2, ps = (a, false) :: ps2 ∧ cp_fr P S Q pa pb fr ps2 fp2 a))
theorem cp_fr_ext {P P2 : pd_P} {S S2 : rn_N} {Q Q2 : Nat → Prop} {pa pb pa2 pb2 : Nat → Nat} (hS : rn_E S S2) : ∀ {fr : List ap_F} {ps : List (Nat × Bool)} {fp : List Nat} {e : Nat}, cp_fr P S Q pa pb fr ps fp e → (∀ i, i ∈ fp → pd_E P P2 i) → (∀ y, Q y → pb y ≤ e → Q2 y ∧ pa2 y = pa y ∧ pb2 y = pb y) → cp_fr P2 S2 Q2 pa2 pb2 fr ps fp e
  | [], _, _, _, h, _, _ => h
  | f :: fr, ps, fp, e, h, hP, hQ => by
    obtain ⟨a, fp2, rfl, hae, hlt, h⟩ := h
    obtain ⟨e1, e2, e3, e4, e5, e6⟩ := hP a List.mem_cons_self
    have rec1 : ∀ ps, cp_fr P S Q pa pb fr ps fp2 a → cp_fr P2 S2 Q2 pa2 pb2 fr ps fp2 a := fun ps h => cp_fr_ext hS h (fun i hi => hP i (List.mem_cons_of_mem _ hi)) (fun y hy hb => hQ y hy (by omega))
    refine ⟨a, fp2, rfl, hae, hlt, ?_⟩
    rcases h with ⟨g1, g2, g3, g4⟩ | ⟨g1, g2, g3, g4, g5⟩ | ⟨g1, g2, g3, g4, g5, g6⟩ | ⟨g1, g2, g3, g4, g5, g6⟩ | ⟨g1, g2, g3, g4, g5, g6⟩ | ⟨g1, g2, g3, ps2, g4, g5⟩ | ⟨g1, g2, g3, g4, g5, g6, g7, ps2, g8, g9⟩
    · exact Or.inl ⟨g1, by rw [e1]; exact g2, g3, rec1 _ g4⟩
    · exact Or.inr (Or.inl ⟨g1, by rw [e1]; exact g2, by rw [e4]; exact g3, g4, rec1 _ g5⟩)
    · exact Or.inr (Or.inr (Or.inl ⟨g1, Nat.lt_of_lt_of_le g2 hS.1, by rw [e1]; exact g3, by rw [e2, (rn_E_k hS g2).2.2.2.1]; exact g4, g5, rec1 _ g6⟩))
    · exact Or.inr (Or.inr (Or.inr (Or.inl ⟨g1, Nat.lt_of_lt_of_le g2 hS.1, by rw [e1]; exact g3, by rw [e6, (rn_E_k hS g2).2.2.1]; exact g4, g5, rec1 _ g6⟩)))
    · exact Or.inr (Or.inr (Or.inr (Or.inr (Or.inl ⟨g1, Nat.lt_of_lt_of_le g2 hS.1, by rw [e1]; exact g3, by rw [e6, (rn_E_k hS g2).2.2.1]; exact g4, g5, rec1 _ g6⟩))))
    · exact Or.inr (Or.inr (Or.inr (Or.inr (Or.inr (Or.inl ⟨g1, by rw [e1]; exact g2, g3, ps2, g4, rec1 _ g5⟩)))))
    · obtain ⟨q1, q2, q3⟩ := hQ _ g5 (by omega)
      exact Or.inr (Or.inr (Or.inr (Or.inr (Or.inr (Or.inr ⟨g1, Nat.lt_of_lt_of_le g2 hS.1, by rw [e1]; exact g3, by rw [e5]; exact g4, q1, by rw [q2]; exact g6, by rw [q3]; exact g7, ps2, g8, rec1 _ g9⟩)))))
/-- the places of frames lie below their end -/
theorem cp_fr_lt {P : pd_P} {S : rn_N} {Q : Nat → Prop} {pa pb : Nat → Nat} {fr : List ap_F} {ps : List (Nat × Bool)} {fp : List Nat} {e : Nat} (h : cp_fr P S Q pa pb fr ps fp e) : ∀ i, i ∈ fp → i < e := by
  cases fr with
  | nil =>
    obtain ⟨_, rfl, _⟩ := h
    exact fun i hi => absurd hi (by simp)
  | cons f fr =>
    obtain ⟨a, fp2, rfl, hae, hlt, h⟩ := h
    intro i hi
    rcases List.mem_cons.mp hi with w | w
    · omega
    · have := hlt i w
      omega
theorem tr_ok_ext {P P2 : pd_P} {S S2 : rn_N} {Q : Nat → Prop} {pa pb : Nat → Nat} {fp : List Nat} (hS : rn_E S S2) (hQ : cq_Q S fp Q pa) (h : tr_ok P (rn_d S) (rn_h S) (rn_t S) Q pa pb) (hP : ∀ x, Q x → pd_E P P2 (pa x)) (hm : ∀ x, Q x → pb x ≤ pd_m P2) : tr_ok P2 (rn_d S2) (rn_h S2) (rn_t S2) Q pa pb := by
  intro n hn
  obtain ⟨a1, a2, a3, a4, a5⟩ := h n hn
  obtain ⟨b1, b2, b3, b4, b5⟩ := hQ n hn
  obtain ⟨k1, k2, k3, k4, k5⟩ := rn_E_k hS b1
  obtain ⟨l1, l2, l3, l4, l5⟩ := rn_E_k hS b2
  obtain ⟨r1, r2, r3, r4, r5⟩ := rn_E_k hS b3
  rw [k5, k4, l4, r4, l3]
  exact ⟨tr_eq_P (hP n hn) a1, a2, a3, a4, hm n hn⟩
theorem cq_Q_ext {S S2 : rn_N} {fp fp2 : List Nat} {Q : Nat → Prop} {pa : Nat → Nat} (hS : rn_E S S2) (hQ : cq_Q S fp Q pa) (hf : ∀ x, Q x → ∀ a, a ∈ fp2 → ¬ pa x = a) : cq_Q S2 fp2 Q pa := by
  intro x hx
  obtain ⟨b1, b2, b3, b4, b5⟩ := hQ x hx
  obtain ⟨k1, k2, k3, k4, k5⟩ := rn_E_k hS b1
  have := hS.1
  exact ⟨by omega, by rw [k5]; omega, by rw [k5]; omega, by rw [k1]; exact b4, hf x hx⟩
/-- a node more, and its parts -/
theorem tr_ok_add {P : pd_P} {S : rn_N} {Q : Nat → Prop} {pa pb : Nat → Nat} {z a b : Nat} (h : tr_ok P (rn_d S) (rn_h S) (rn_t S) Q pa pb) (hQ : ∀ x, Q x → x < z) (hz : tr_eq P (rn_d S z) (rn_h S z) (rn_h S (nq_l (rn_d S z))) (rn_h S (nq_r (rn_d S z))) (rn_t S (nq_l (rn_d S z))) a b (pa (nq_l (rn_d S z))) (pb (nq_l (rn_d S z))) (pa (nq_r (rn_d S z))) (pb (nq_r (rn_d S z)))) (hl : tr_L (nq_k (rn_d S z)) → nq_l (rn_d S z) < z ∧ Q (nq_l (rn_d S z))) (hr : tr_R (nq_k (rn_d S z)) → nq_r (rn_d S z) < z ∧ Q (nq_r (rn_d S z))) (hlz : ¬ nq_l (rn_d S z) = z) (hrz : ¬ nq_r (rn_d S z) = z) (hc : ∀ x, Q x → ¬ nq_l (rn_d S x) = z ∧ ¬ nq_r (rn_d S x) = z) (hab : a < b) (hb : b ≤ pd_m P) : tr_ok P (rn_d S) (rn_h S) (rn_t S) (fun x => Q x ∨ x = z) (rn_u pa z a) (rn_u pb z b) := by
  rintro n (hn | rfl)
  · obtain ⟨a1, a2, a3, a4, a5⟩ := h n hn
    have hnz : ¬ n = z := by have := hQ n hn; omega
    obtain ⟨c1, c2⟩ := hc n hn
    rw [rn_u_no _ _ hnz, rn_u_no _ _ hnz, rn_u_no _ _ c1, rn_u_no _ _ c1, rn_u_no _ _ c2, rn_u_no _ _ c2]
    exact ⟨a1, fun w => ⟨(a2 w).1, Or.inl (a2 w).2⟩, fun w => ⟨(a3 w).1, Or.inl (a3 w).2⟩, a4, a5⟩
  · rw [rn_u_at, rn_u_at, rn_u_no _ _ hlz, rn_u_no _ _ hlz, rn_u_no _ _ hrz, rn_u_no _ _ hrz]
    exact ⟨hz, fun w => ⟨(hl w).1, Or.inl (hl w).2⟩, fun w => ⟨(hr w).1, Or.inl (hr w).2⟩, hab, hb⟩
theorem tr_ok_leaf {P : pd_P} {S : rn_N} {Q : Nat → Prop} {pa pb : Nat → Nat} {z a b : Nat} (h : tr_ok P (rn_d S) (rn_h S) (rn_t S) Q pa pb) (hQ : ∀ x, Q x → x < z) (hz : ∀ al bl ar br, tr_eq P (rn_d S z) (rn_h S z) (rn_h S (nq_l (rn_d S z))) (rn_h S (nq_r (rn_d S z))) (rn_t S (nq_l (rn_d S z))) a b al bl ar br) (hl : ¬ tr_L (nq_k (rn_d S z))) (hr : ¬ tr_R (nq_k (rn_d S z))) (hc : ∀ x, Q x → ¬ nq_l (rn_d S x) = z ∧ ¬ nq_r (rn_d S x) = z) (hab : a < b) (hb : b ≤ pd_m P) : tr_ok P (rn_d S) (rn_h S) (rn_t S) (fun x => Q x ∨ x = z) (rn_u pa z a) (rn_u pb z b) := by
  rintro n (hn | rfl)
  · obtain ⟨a1, a2, a3, a4, a5⟩ := h n hn
    have hnz : ¬ n = z := by have := hQ n hn; omega
    obtain ⟨c1, c2⟩ := hc n hn
    rw [rn_u_no _ _ hnz, rn_u_no _ _ hnz, rn_u_no _ _ c1, rn_u_no _ _ c1, rn_u_no _ _ c2, rn_u_no _ _ c2]
    exact ⟨a1, fun w => ⟨(a2 w).1, Or.inl (a2 w).2⟩, fun w => ⟨(a3 w).1, Or.inl (a3 w).2⟩, a4, a5⟩
  · rw [rn_u_at pa, rn_u_at pb]
    exact ⟨hz _ _ _ _, fun w => absurd w hl, fun w => absurd w hr, hab, hb⟩
/-- the class's parts stand for what the reference has read -/
def cR (P : pd_P) (ps : List (Nat × Bool)) (S : rn_N) (fr : List ap_F) (p : Option Nat) : Prop := ∃ (Q : Nat → Prop) (pa pb : Nat → Nat) (fp : List Nat) (e : Nat), tr_ok P (rn_d S) (rn_h S) (rn_t S) Q pa pb ∧ cq_Q S fp Q pa ∧ cp_fr P S Q pa pb fr ps fp e ∧ e ≤ pd_m P ∧ (p = none → e = pd_m P) ∧ ∀ x, p = some x → Q x ∧ pa x = e ∧ pb x = pd_m P
theorem cR_0 {P : pd_P} (hm : pd_m P = 0) : cR P [] rn_0 [] none := ⟨fun _ => False, fun _ => 0, fun _ => 0, [], 0, fun n hn => hn.elim, fun x hx => hx.elim, ⟨rfl, rfl, rfl⟩, Nat.zero_le _, fun _ => hm.symm, fun x hx => by cases hx⟩
/-- a frame more, its part behind all others -/
theorem cR_frame {P P2 : pd_P} {ps ps2 : List (Nat × Bool)} {S S2 : rn_N} {fr : List ap_F} {f : ap_F} (h : cR P ps S fr none) (hS : rn_E S S2) (hP : ∀ i, i < pd_m P → pd_E P P2 i) (hm : pd_m P2 = pd_m P + 1) (hf : ∀ Q pa pb fp, cp_fr P2 S2 Q pa pb fr ps fp (pd_m P) → (∀ i, i ∈ fp → i < pd_m P) → cp_fr P2 S2 Q pa pb (f :: fr) ps2 (pd_m P :: fp) (pd_m P + 1)) : cR P2 ps2 S2 (f :: fr) none := by
  obtain ⟨Q, pa, pb, fp, e, h1, h2, h3, h4, h5, h6⟩ := h
  have h5 := h5 rfl
  subst h5
  have hpa : ∀ x, Q x → pa x < pd_m P ∧ pb x ≤ pd_m P := fun x hx => by
    obtain ⟨_, _, _, a4, a5⟩ := h1 x hx
    omega
  have hlt := cp_fr_lt h3
  refine ⟨Q, pa, pb, pd_m P :: fp, pd_m P + 1, tr_ok_ext hS h2 h1 (fun x hx => hP _ (hpa x hx).1) (fun x hx => by have := (hpa x hx).2; omega), cq_Q_ext hS h2 (fun x hx a ha => ?_), hf Q pa pb fp (cp_fr_ext hS h3 (fun i hi => hP i (hlt i hi)) (fun y hy _ => ⟨hy, rfl, rfl⟩)) hlt, by omega, fun _ => hm.symm, fun x hx => by cases hx⟩
  rcases List.mem_cons.mp ha with w | w
  · have := (hpa x hx).1
    omega
  · exact (h2 x hx).2.2.2.2 a w
/-- an operand more, its part behind all others -/
theorem cR_leaf {P P2 : pd_P} {ps : List (Nat × Bool)} {S S2 : rn_N} {fr : List ap_F} {z : Nat} (h : cR P ps S fr none) (hS : rn_E S S2) (hP : ∀ i, i < pd_m P → pd_E P P2 i) (hm : pd_m P2 = pd_m P + 1) (hz : rn_n S ≤ z ∧ z < rn_n S2) (hk : fl_prop (rn_k S2 z)) (hL : ¬ tr_L (nq_k (rn_d S2 z))) (hR : ¬ tr_R (nq_k (rn_d S2 z))) (hl : nq_l (rn_d S2 z) < rn_n S2) (hr : nq_r (rn_d S2 z) < rn_n S2) (he : ∀ al bl ar br, tr_eq P2 (rn_d S2 z) (rn_h S2 z) (rn_h S2 (nq_l (rn_d S2 z))) (rn_h S2 (nq_r (rn_d S2 z))) (rn_t S2 (nq_l (rn_d S2 z))) (pd_m P) (pd_m P + 1) al bl ar br) : cR P2 ps S2 fr (some z) := by
  obtain ⟨Q, pa, pb, fp, e, h1, h2, h3, h4, h5, h6⟩ := h
  have h5 := h5 rfl
  subst h5
  have hpa : ∀ x, Q x → pa x < pd_m P ∧ pb x ≤ pd_m P := fun x hx => by
    obtain ⟨_, _, _, a4, a5⟩ := h1 x hx
    omega
  have hlt := cp_fr_lt h3
  have hQz : ∀ x, Q x → x < z := fun x hx => by have := (h2 x hx).1; omega
  have t1 := tr_ok_ext hS h2 h1 (P2 := P2) (fun x hx => hP _ (hpa x hx).1) (fun x hx => by have := (hpa x hx).2; omega)
  refine ⟨fun x => Q x ∨ x = z, rn_u pa z (pd_m P), rn_u pb z (pd_m P + 1), fp, pd_m P, tr_ok_leaf t1 hQz he hL hR (fun x hx => ?_) (by omega) (by omega), ?_, cp_fr_ext hS h3 (fun i hi => hP i (hlt i hi)) (fun y hy _ => ⟨Or.inl hy, rn_u_no _ _ (by have := hQz y hy; omega), rn_u_no _ _ (by have := hQz y hy; omega)⟩), by omega, (fun w => by cases w), fun x hx => ?_⟩
  · obtain ⟨b1, b2, b3, _⟩ := h2 x hx
    obtain ⟨_, _, _, _, k5⟩ := rn_E_k hS b1
    rw [k5]
    omega
  · rintro x (hx | rfl)
    · have := cq_Q_ext hS h2 (fp2 := fp) (fun x hx => (h2 x hx).2.2.2.2) x hx
      rw [rn_u_no _ _ (by have := hQz x hx; omega)]
      exact this
    · rw [rn_u_at]
      exact ⟨hz.2, hl, hr, hk, fun a ha => by have := hlt a ha; omega⟩
  · cases hx
    exact ⟨Or.inr rfl, rn_u_at _ _ _, by rw [rn_u_at, hm]⟩
theorem tr_mono {P : pd_P} {x : nq_N} {c cl cr : Nat → Bool} {A : nt_A} {a b al bl ar br : Nat} (h : tr_eq P x c cl cr A a b al bl ar br) (hr : tr_R (nq_k x) → ar < br) : (tr_L (nq_k x) → bl ≤ b) ∧ (tr_R (nq_k x) → br ≤ b) := by
  unfold tr_L tr_R at *
  unfold tr_eq at h
  rcases h with h | h | h | h | h | h | h | h | h | h | h
  · refine ⟨fun z => ?_, fun z => ?_⟩ <;> omega
  · refine ⟨fun z => ?_, fun z => ?_⟩ <;> omega
  · refine ⟨fun z => ?_, fun z => ?_⟩ <;> omega
  · refine ⟨fun z => ?_, fun z => ?_⟩ <;> omega
  · refine ⟨fun z => ?_, fun z => ?_⟩ <;> omega
  · refine ⟨fun z => ?_, fun z => ?_⟩ <;> omega
  · refine ⟨fun z => ?_, fun z => ?_⟩ <;> omega
  · refine ⟨fun z => ?_, fun z => ?_⟩ <;> omega
  · refine ⟨fun z => ?_, fun z => ?_⟩ <;> omega
  · refine ⟨fun z => ?_, fun z => ?_⟩ <;> omega
  · have hr := hr (by omega)
    refine ⟨fun z => ?_, fun z => ?_⟩ <;> omega
/-- a frame taken off: the node that it makes -/
theorem cR_build {P P2 : pd_P} {S S2 : rn_N} {Q : Nat → Prop} {pa pb : Nat → Nat} {fr : List ap_F} {ps : List (Nat × Bool)} {fp : List Nat} {a z : Nat} (hS : rn_E S S2) (h1 : tr_ok P (rn_d S) (rn_h S) (rn_t S) Q pa pb) (h2 : cq_Q S (a :: fp) Q pa) (h3 : cp_fr P S Q pa pb fr ps fp a) (hlt : ∀ i, i ∈ fp → i < a) (hP : ∀ i, ¬ i = a → pd_E P P2 i) (ha : a < pd_m P2) (hz : rn_n S ≤ z ∧ z < rn_n S2) (hk : fl_prop (rn_k S2 z)) (hl : nq_l (rn_d S2 z) < rn_n S2 ∧ ¬ nq_l (rn_d S2 z) = z) (hr : nq_r (rn_d S2 z) < rn_n S2 ∧ ¬ nq_r (rn_d S2 z) = z) (hL : tr_L (nq_k (rn_d S2 z)) → nq_l (rn_d S2 z) < z ∧ Q (nq_l (rn_d S2 z)) ∧ pb (nq_l (rn_d S2 z)) ≤ pd_m P2) (hR : tr_R (nq_k (rn_d S2 z)) → nq_r (rn_d S2 z) < z ∧ Q (nq_r (rn_d S2 z)) ∧ pb (nq_r (rn_d S2 z)) ≤ pd_m P2) (he : tr_eq P2 (rn_d S2 z) (rn_h S2 z) (rn_h S2 (nq_l (rn_d S2 z))) (rn_h S2 (nq_r (rn_d S2 z))) (rn_t S2 (nq_l (rn_d S2 z))) a (pd_m P2) (pa (nq_l (rn_d S2 z))) (pb (nq_l (rn_d S2 z))) (pa (nq_r (rn_d S2 z))) (pb (nq_r (rn_d S2 z)))) : cR P2 ps S2 fr (some z) := by
  have hQz : ∀ x, Q x → x < z := fun x hx => by have := (h2 x hx).1; omega
  have hpaa : ∀ x, Q x → ¬ pa x = a := fun x hx => (h2 x hx).2.2.2.2 a List.mem_cons_self
  have h1b : tr_ok P (rn_d S) (rn_h S) (rn_t S) (fun y => Q y ∧ pb y ≤ pd_m P2) pa pb := by
    rintro n ⟨hn, hn2⟩
    obtain ⟨a1, a2, a3, a4, a5⟩ := h1 n hn
    obtain ⟨m1, m2⟩ := tr_mono a1 (fun w => (h1 _ (a3 w).2).2.2.2.1)
    exact ⟨a1, fun w => ⟨(a2 w).1, (a2 w).2, by have := m1 w; omega⟩, fun w => ⟨(a3 w).1, (a3 w).2, by have := m2 w; omega⟩, a4, a5⟩
  have h2b : cq_Q S (a :: fp) (fun y => Q y ∧ pb y ≤ pd_m P2) pa := fun x hx => h2 x hx.1
  have t1 := tr_ok_ext hS h2b h1b (P2 := P2) (fun x hx => hP _ (hpaa x hx.1)) (fun x hx => hx.2)
  refine ⟨fun x => (Q x ∧ pb x ≤ pd_m P2) ∨ x = z, rn_u pa z a, rn_u pb z (pd_m P2), fp, a, tr_ok_add t1 (fun x hx => hQz x hx.1) he (fun w => ⟨(hL w).1, (hL w).2⟩) (fun w => ⟨(hR w).1, (hR w).2⟩) hl.2 hr.2 (fun x hx => ?_) ha (Nat.le_refl _), ?_, cp_fr_ext hS h3 (fun i hi => hP i (by have := hlt i hi; omega)) (fun y hy hb => ⟨Or.inl ⟨hy, by omega⟩, rn_u_no _ _ (by have := hQz y hy; omega), rn_u_no _ _ (by have := hQz y hy; omega)⟩), by omega, (fun w => by cases w), fun x hx => ?_⟩
  · obtain ⟨b1, b2, b3, _⟩ := h2 x hx.1
    obtain ⟨_, _, _, _, k5⟩ := rn_E_k hS b1
    rw [k5]
    omega
  · rintro x (hx | rfl)
    · have := cq_Q_ext hS h2b (fp2 := fp) (fun x hx a ha => (h2 x hx.1).2.2.2.2 a (List.mem_cons_of_mem _ ha)) x hx
      rw [rn_u_no _ _ (by have := hQz x hx.1; omega)]
      exact this
    · rw [rn_u_at]
      exact ⟨hz.2, hl.1, hr.1, hk, fun b hb => by have := hlt b hb; omega⟩
  · cases hx
    exact ⟨Or.inr rfl, rn_u_at _ _ _, rn_u_at _ _ _⟩
/-- a frame that is no paren is taken off -/
theorem cR_pop {P : pd_P} {ps : List (Nat × Bool)} {S : rn_N} {fr : List ap_F} {f : ap_F} {x lx : Nat} (h : cR P ps S (f :: fr) (some x)) (h15 : ¬ f.1 = 15) (h29 : ¬ f.1 = 29) (hlx : lx = (if f.1 = 10 ∨ f.1 = 12 then x else f.2.1)) : cR P ps (rn_m S (f.1, lx, x, f.2.2, 0)) fr (some (rn_n S)) := by
  obtain ⟨Q, pa, pb, fp, e, h1, h2, h3, h4, h5, h6⟩ := h
  obtain ⟨hx1, hx2, hx3⟩ := h6 x rfl
  have hxn := (h2 x hx1).1
  have hxp := (h1 x hx1).2.2.2.1
  obtain ⟨a, fp2, rfl, hae, hlt, h3⟩ := h3
  have hS : rn_E S (rn_m S (f.1, lx, x, f.2.2, 0)) := rn_E_mk
  have ed : rn_d (rn_m S (f.1, lx, x, f.2.2, 0)) (rn_n S) = (f.1, lx, x, f.2.2, 0) := rn_mk_a.1
  have ek : rn_k (rn_m S (f.1, lx, x, f.2.2, 0)) (rn_n S) = f.1 := rn_mk_k
  have en : rn_n (rn_m S (f.1, lx, x, f.2.2, 0)) = rn_n S + 1 := rfl
  have go : lx < rn_n S → e = a + 1 → cp_fr P S Q pa pb fr ps fp2 a → fl_prop f.1 → (tr_L f.1 → lx = x) → (∀ c, tr_eq P (f.1, lx, x, f.2.2, 0) c (rn_h S lx) (rn_h S x) (rn_t S lx) a (pd_m P) (pa lx) (pb lx) (pa x) (pb x)) → cR P ps (rn_m S (f.1, lx, x, f.2.2, 0)) fr (some (rn_n S)) := by
    intro hlx1 hea hc hfl htl hte
    refine cR_build (z := rn_n S) hS h1 h2 hc hlt (fun i _ => ⟨rfl, rfl, rfl, rfl, rfl, rfl⟩) (by omega) ⟨Nat.le_refl _, by omega⟩ (by rw [ek]; exact hfl) ?_ ?_ ?_ ?_ ?_
    · rw [ed]
      show lx < _ ∧ ¬ lx = _
      omega
    · rw [ed]
      show x < _ ∧ ¬ x = _
      omega
    · rw [ed]
      intro w
      have := htl w
      show lx < _ ∧ Q lx ∧ pb lx ≤ _
      rw [this]
      exact ⟨hxn, hx1, by omega⟩
    · rw [ed]
      intro w
      exact ⟨hxn, hx1, by show pb x ≤ _; omega⟩
    · rw [ed]
      show tr_eq P (f.1, lx, x, f.2.2, 0) _ (rn_h _ lx) (rn_h _ x) (rn_t _ lx) a (pd_m P) (pa lx) (pb lx) (pa x) (pb x)
      obtain ⟨_, _, l3, l4, _⟩ := rn_E_k hS hlx1
      obtain ⟨_, _, _, r4, _⟩ := rn_E_k hS hxn
      rw [l3, l4, r4]
      exact hte _
  rcases h3 with ⟨g1, g2, g3, g4⟩ | ⟨g1, g2, g3, g4, g5⟩ | ⟨g1, g2, g3, g4, g5, g6⟩ | ⟨g1, g2, g3, g4, g5, g6⟩ | ⟨g1, g2, g3, g4, g5, g6⟩ | ⟨g1, _⟩ | ⟨g1, _⟩
  · have el : lx = x := by rw [hlx]; exact if_pos (Or.inl g1)
    refine go (by omega) g3 g4 (by unfold fl_prop; omega) (fun _ => el) (fun c => Or.inr (Or.inr (Or.inr (Or.inr (Or.inr (Or.inl ⟨g1, g2, ?_, ?_⟩))))))
    · rw [el, hx2, g3]
    · rw [el, hx3]
  · have el : lx = x := by rw [hlx]; exact if_pos (Or.inr g1)
    refine go (by omega) g4 g5 (by unfold fl_prop; omega) (fun _ => el) (fun c => Or.inr (Or.inr (Or.inr (Or.inr (Or.inr (Or.inr (Or.inr (Or.inl ⟨g1, g2, g3, ?_, ?_⟩))))))))
    · rw [el, hx2, g4]
    · rw [el, hx3]
  · have el : lx = f.2.1 := by rw [hlx]; exact if_neg (by omega)
    refine go (by omega) g5 g6 (by unfold fl_prop; omega) (fun w => by unfold tr_L at w; omega) (fun c => Or.inr (Or.inr (Or.inr (Or.inr (Or.inl ⟨g1, g3, ?_, ?_, ?_⟩)))))
    · rw [el]; exact g4
    · rw [hx2, g5]
    · rw [hx3]
  · have el : lx = f.2.1 := by rw [hlx]; exact if_neg (by omega)
    refine go (by omega) g5 g6 (by unfold fl_prop; omega) (fun w => by unfold tr_L at w; omega) (fun c => Or.inr (Or.inr (Or.inl ⟨g1, g3, ?_, ?_, ?_⟩)))
    · rw [el]; exact g4
    · rw [hx2, g5]
    · rw [hx3]
  · have el : lx = f.2.1 := by rw [hlx]; exact if_neg (by omega)
    refine go (by omega) g5 g6 (by unfold fl_prop; omega) (fun w => by unfold tr_L at w; omega) (fun c => Or.inr (Or.inr (Or.inr (Or.inl ⟨g1, g3, ?_, ?_, ?_⟩))))
    · rw [el]; exact g4
    · rw [hx2, g5]
    · rw [hx3]
  · exact absurd g1 h29
  · exact absurd g1 h15
/-- a paren closed behind its second property -/
theorem cR_close {P : pd_P} {ps : List (Nat × Bool)} {S : rn_N} {fr : List ap_F} {f : ap_F} {x : Nat} (h : cR P ps S (f :: fr) (some x)) (h15 : f.1 = 15) : ∃ a ps2, ps = (a, false) :: ps2 ∧ cR P ps2 (rn_m S (15, f.2.1, x, 0, 0)) fr (some (rn_n S)) := by
  obtain ⟨Q, pa, pb, fp, e, h1, h2, h3, h4, h5, h6⟩ := h
  obtain ⟨hx1, hx2, hx3⟩ := h6 x rfl
  have hxn := (h2 x hx1).1
  have hxp := (h1 x hx1).2.2.2.1
  obtain ⟨a, fp2, rfl, hae, hlt, h3⟩ := h3
  rcases h3 with ⟨g1, _⟩ | ⟨g1, _⟩ | ⟨g1, _⟩ | ⟨g1, _⟩ | ⟨g1, _⟩ | ⟨g1, _⟩ | ⟨g1, g2, g3, g4, g5, g6, g7, ps2, g8, g9⟩
  · omega
  · omega
  · omega
  · omega
  · omega
  · omega
  · refine ⟨a, ps2, g8, ?_⟩
    have hS : rn_E S (rn_m S (15, f.2.1, x, 0, 0)) := rn_E_mk
    have ed : rn_d (rn_m S (15, f.2.1, x, 0, 0)) (rn_n S) = (15, f.2.1, x, 0, 0) := rn_mk_a.1
    have ek : rn_k (rn_m S (15, f.2.1, x, 0, 0)) (rn_n S) = 15 := rn_mk_k
    have en : rn_n (rn_m S (15, f.2.1, x, 0, 0)) = rn_n S + 1 := rfl
    refine cR_build (z := rn_n S) hS h1 h2 g9 hlt (fun i _ => ⟨rfl, rfl, rfl, rfl, rfl, rfl⟩) (by omega) ⟨Nat.le_refl _, by omega⟩ (by rw [ek]; unfold fl_prop; omega) ?_ ?_ ?_ ?_ ?_
    · rw [ed]
      show f.2.1 < _ ∧ ¬ f.2.1 = _
      omega
    · rw [ed]
      show x < _ ∧ ¬ x = _
      omega
    · rw [ed]
      exact fun _ => ⟨g2, g5, by show pb f.2.1 ≤ _; omega⟩
    · rw [ed]
      exact fun _ => ⟨hxn, hx1, by show pb x ≤ _; omega⟩
    · rw [ed]
      refine Or.inr (Or.inr (Or.inr (Or.inr (Or.inr (Or.inr (Or.inr (Or.inr (Or.inr (Or.inr ⟨rfl, g3, g6, ?_, ?_, ?_⟩)))))))))
      · show pa x = pb f.2.1
        omega
      · show pd_l P a = pb f.2.1
        omega
      · show pd_m P = pb x
        omega
/-- 'and' behind the first property of a paren -/
theorem cR_and {P P2 : pd_P} {ps : List (Nat × Bool)} {S : rn_N} {fr : List ap_F} {f : ap_F} {x : Nat} (h : cR P ps S (f :: fr) (some x)) (h29 : f.1 = 29) : ∃ a ps2, ps = (a, true) :: ps2 ∧ a + 1 < pd_m P ∧ pd_k P a = 10 ∧ (pd_m P2 = pd_m P → (∀ i, ¬ i = a → pd_E P P2 i) → pd_k P2 a = 10 → pd_l P2 a = pd_m P → cR P2 ((a, false) :: ps2) S ((15, x, 0) :: fr) none) := by
  obtain ⟨Q, pa, pb, fp, e, h1, h2, h3, h4, h5, h6⟩ := h
  obtain ⟨hx1, hx2, hx3⟩ := h6 x rfl
  have hxn := (h2 x hx1).1
  have hxp := (h1 x hx1).2.2.2.1
  obtain ⟨a, fp2, rfl, hae, hlt, h3⟩ := h3
  rcases h3 with ⟨g1, _⟩ | ⟨g1, _⟩ | ⟨g1, _⟩ | ⟨g1, _⟩ | ⟨g1, _⟩ | ⟨g1, g2, g3, ps2, g4, g5⟩ | ⟨g1, _⟩
  · omega
  · omega
  · omega
  · omega
  · omega
  · refine ⟨a, ps2, g4, by omega, g2, fun hm hP hk hl => ?_⟩
    have hpaa : ∀ x, Q x → ¬ pa x = a := fun x hx => (h2 x hx).2.2.2.2 a List.mem_cons_self
    have hle := fun x hx => (h1 x hx).2.2.2.2
    refine ⟨Q, pa, pb, a :: fp2, pd_m P, tr_ok_ext (rn_E_id S) h2 h1 (fun x hx => hP _ (hpaa x hx)) (fun x hx => by rw [hm]; exact hle x hx), h2, ⟨a, fp2, rfl, by omega, hlt, Or.inr (Or.inr (Or.inr (Or.inr (Or.inr (Or.inr ⟨rfl, hxn, hk, hl, hx1, by show pa x = _; omega, hx3, ps2, rfl, cp_fr_ext (rn_E_id S) g5 (fun i hi => hP i (by have := hlt i hi; omega)) (fun y hy _ => ⟨hy, rfl, rfl⟩)⟩)))))⟩, by omega, fun _ => hm.symm, (fun y hy => by cases hy)⟩
  · omega
/-- 'until' and 'before' -/
theorem cR_until {P P2 : pd_P} {ps : List (Nat × Bool)} {S S2 : rn_N} {fr : List ap_F} {f : ap_F} {x c : Nat} (h : cR P ps S (f :: fr) (some x)) (h29 : f.1 = 29) (hS : rn_E S S2) (hc : rn_n S ≤ c ∧ c < rn_n S2) : ∃ a ps2, ps = (a, true) :: ps2 ∧ a + 1 < pd_m P ∧ (rn_k S x = 60 ↔ (a + 2 = pd_m P ∧ pd_k P (a + 1) = 0)) ∧ (rn_k S x = 60 → ∀ v, v < 64 → pd_c P (a + 1) v = rn_h S x v) ∧ (pd_m P2 = pd_m P → (∀ i, ¬ i = a → pd_E P P2 i) → pd_k P2 a = 8 → (∀ v, v < 64 → pd_c P2 a v = rn_h S2 c v) → cR P2 ps2 (rn_m S2 (13, x, c, 0, 0)) fr (some (rn_n S2))) ∧ (pd_m P2 = a + 1 → rn_k S x = 60 → (∀ i, ¬ i = a → pd_E P P2 i) → pd_k P2 a = 9 → (∀ v, v < 64 → pd_c P2 a v = rn_h S x v) → (∀ v, v < 64 → pd_d P2 a v = rn_h S2 c v) → cR P2 ps2 (rn_m S2 (14, x, c, 0, 0)) fr (some (rn_n S2))) := by
  obtain ⟨Q, pa, pb, fp, e, h1, h2, h3, h4, h5, h6⟩ := h
  obtain ⟨hx1, hx2, hx3⟩ := h6 x rfl
  have hxn := (h2 x hx1).1
  have hxt := (h1 x hx1).1
  have hxp := (h1 x hx1).2.2.2.1
  obtain ⟨a, fp2, rfl, hae, hlt, h3⟩ := h3
  have hle := hS.1
  rcases h3 with ⟨g1, _⟩ | ⟨g1, _⟩ | ⟨g1, _⟩ | ⟨g1, _⟩ | ⟨g1, _⟩ | ⟨g1, g2, g3, ps2, g4, g5⟩ | ⟨g1, _⟩
  · omega
  · omega
  · omega
  · omega
  · omega
  · have hea : pa x = a + 1 := by omega
    have ekx : nq_k (rn_d S x) = rn_k S x := rfl
    have hcond : rn_k S x = 60 → pd_k P (a + 1) = 0 ∧ (∀ v, v < 64 → pd_c P (a + 1) v = rn_h S x v) ∧ pb x = a + 2 := by
      intro w
      unfold tr_eq at hxt
      rw [ekx, w, hea] at hxt
      rcases hxt with t | t | t | t | t | t | t | t | t | t | t
      · exact ⟨t.2.1, t.2.2.1, t.2.2.2⟩
      all_goals (have := t.1; omega)
    refine ⟨a, ps2, g4, by omega, ⟨fun w => ?_, fun w => ?_⟩, fun w => (hcond w).2.1, fun hm hP hk hcc => ?_, fun hm h60 hP hk hcc hcd => ?_⟩
    · obtain ⟨q1, _, q2⟩ := hcond w
      exact ⟨by omega, q1⟩
    · unfold tr_eq at hxt
      rw [ekx, hea, w.2] at hxt
      rcases hxt with t | t | t | t | t | t | t | t | t | t | t
      · exact t.1
      all_goals (have := t.2.1; omega)
    · have hS3 : rn_E S (rn_m S2 (13, x, c, 0, 0)) := rn_E_tr hS rn_E_mk
      have ed : rn_d (rn_m S2 (13, x, c, 0, 0)) (rn_n S2) = (13, x, c, 0, 0) := rn_mk_a.1
      have ek : rn_k (rn_m S2 (13, x, c, 0, 0)) (rn_n S2) = 13 := rn_mk_k
      have en : rn_n (rn_m S2 (13, x, c, 0, 0)) = rn_n S2 + 1 := rfl
      refine cR_build (z := rn_n S2) hS3 h1 h2 g5 hlt hP (by omega) ⟨hle, by omega⟩ (by rw [ek]; unfold fl_prop; omega) ?_ ?_ ?_ ?_ ?_
      · rw [ed]
        show x < _ ∧ ¬ x = _
        omega
      · rw [ed]
        show c < _ ∧ ¬ c = _
        omega
      · rw [ed]
        exact fun _ => ⟨by show x < _; omega, hx1, by show pb x ≤ _; omega⟩
      · rw [ed]
        intro w
        have w : (31 ≤ 13 ∧ 13 ≤ 33) ∨ (13 : Nat) = 15 := w
        omega
      · rw [ed]
        obtain ⟨_, _, _, c4, _⟩ := rn_E_k (rn_E_mk (S := S2) (x := (13, x, c, 0, 0)) (w := 0) (h := fun _ => false)) hc.2
        refine Or.inr (Or.inr (Or.inr (Or.inr (Or.inr (Or.inr (Or.inr (Or.inr (Or.inl ⟨rfl, hk, ?_, hea, ?_⟩))))))))
        · show ∀ v, v < 64 → pd_c P2 a v = rn_h (rn_m S2 (13, x, c, 0, 0)) c v
          unfold rn_m
          rw [c4]
          exact hcc
        · show pd_m P2 = pb x
          omega
    · have hS3 : rn_E S (rn_m S2 (14, x, c, 0, 0)) := rn_E_tr hS rn_E_mk
      have ed : rn_d (rn_m S2 (14, x, c, 0, 0)) (rn_n S2) = (14, x, c, 0, 0) := rn_mk_a.1
      have ek : rn_k (rn_m S2 (14, x, c, 0, 0)) (rn_n S2) = 14 := rn_mk_k
      have en : rn_n (rn_m S2 (14, x, c, 0, 0)) = rn_n S2 + 1 := rfl
      refine cR_build (z := rn_n S2) hS3 h1 h2 g5 hlt hP (by omega) ⟨hle, by omega⟩ (by rw [ek]; unfold fl_prop; omega) ?_ ?_ ?_ ?_ ?_
      · rw [ed]
        show x < _ ∧ ¬ x = _
        omega
      · rw [ed]
        show c < _ ∧ ¬ c = _
        omega
      · rw [ed]
        intro w
        have w : (14 : Nat) = 10 ∨ (14 : Nat) = 12 ∨ (14 : Nat) = 13 ∨ (14 : Nat) = 15 := w
        omega
      · rw [ed]
        intro w
        have w : (31 ≤ 14 ∧ 14 ≤ 33) ∨ (14 : Nat) = 15 := w
        omega
      · rw [ed]
        obtain ⟨_, _, _, c4, _⟩ := rn_E_k (rn_E_mk (S := S2) (x := (14, x, c, 0, 0)) (w := 0) (h := fun _ => false)) hc.2
        obtain ⟨_, _, _, x4, _⟩ := rn_E_k hS3 hxn
        refine Or.inr (Or.inr (Or.inr (Or.inr (Or.inr (Or.inr (Or.inr (Or.inr (Or.inr (Or.inl ⟨rfl, hk, ?_, ?_, hm⟩)))))))))
        · show ∀ v, v < 64 → pd_c P2 a v = rn_h (rn_m S2 (14, x, c, 0, 0)) x v
          rw [x4]
          exact hcc
        · show ∀ v, v < 64 → pd_d P2 a v = rn_h (rn_m S2 (14, x, c, 0, 0)) c v
          unfold rn_m
          rw [c4]
          exact hcd
  · omega
