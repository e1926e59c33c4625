/-! ===== the reference: looking at a word ===== -/
theorem ns_eq_c {x : nq_N} {c ca : Nat → Bool} {w : Nat → Option Nat} {Z : Nat} {SA SA2 SB SB2 : Nat → Nat → Prop} {i j : Nat} (hk : nq_row (nq_k x)) (hA : ¬ nq_k x = 60 → SA = SA2) (hB : nq_two (nq_k x) → SB = SB2) : ns_eq x c ca w Z SA SB i j ↔ ns_eq x c ca w Z SA2 SB2 i j := by
  unfold nq_row at hk
  unfold nq_two at hB
  by_cases c60 : nq_k x = 60
  · rw [ns_eq_60 c60, ns_eq_60 c60]
  rw [hA c60]
  by_cases c2 : 23 ≤ nq_k x ∧ nq_k x ≤ 26
  · rw [hB c2]
  · by_cases c40 : nq_k x = 40
    · rw [ns_eq_40 c40, ns_eq_40 c40]
    by_cases c41 : nq_k x = 41
    · rw [ns_eq_41 c41, ns_eq_41 c41]
    by_cases c42 : nq_k x = 42
    · rw [ns_eq_42 c42, ns_eq_42 c42]
    · rw [ns_eq_oc (by omega), ns_eq_oc (by omega)]
theorem mr_it_S {E : Nat → Nat → Prop} {Z : Nat} (hB : mr_B E Z) : ∀ m i, i ≤ Z → ∀ j, na_it E m i j ↔ na_it (fun a b => a ≤ Z ∧ E a b) m i j
  | 0, i, hi, j => Iff.rfl
  | m + 1, i, hi, j => by
    constructor
    · rintro ⟨k, k1, k2⟩
      exact ⟨k, ⟨hi, k1⟩, (mr_it_S hB m k (hB i hi k k1).2 j).mp k2⟩
    · rintro ⟨k, ⟨_, k1⟩, k2⟩
      exact ⟨k, k1, (mr_it_S hB m k (hB i hi k k1).2 j).mpr k2⟩
theorem mr_it_T {E : Nat → Nat → Prop} {Z : Nat} (hB : mr_B E Z) (m i : Nat) (hi : i ≤ Z) (j : Nat) : na_it (ns_stp E) m i j ↔ na_it (ns_stp (fun a b => a ≤ Z ∧ E a b)) m i j := by
  rw [mr_it_S (E := ns_stp E) (Z := Z) (fun i hi j hj => hB i hi j hj.2) m i hi j]
  exact ⟨na_it_mono (fun a b z => ⟨z.2.1, z.1, z.2.2⟩) m i j, na_it_mono (fun a b z => ⟨z.2.1, z.1, z.2.2⟩) m i j⟩
theorem mr_ns_S {x : nq_N} {c ca : Nat → Bool} {w : Nat → Option Nat} {Z : Nat} {SA SB : Nat → Nat → Prop} {i j : Nat} (hk : nq_row (nq_k x)) (hA : ¬ nq_k x = 60 → mr_B SA Z) (hB : nq_two (nq_k x) → mr_B SB Z) (hi : i ≤ Z) : ns_eq x c ca w Z SA SB i j ↔ ns_eq x c ca w Z (fun a b => a ≤ Z ∧ SA a b) (fun a b => a ≤ Z ∧ SB a b) i j := by
  unfold nq_row at hk
  unfold nq_two at hB
  by_cases c60 : nq_k x = 60
  · rw [ns_eq_60 c60, ns_eq_60 c60]
  have hA := hA c60
  by_cases c23 : nq_k x = 23
  · rw [ns_eq_23 c23, ns_eq_23 c23]
    exact ⟨fun ⟨k, k1, k2⟩ => ⟨k, ⟨hi, k1⟩, (hA i hi k k1).2, k2⟩, fun ⟨k, k1, k2⟩ => ⟨k, k1.2, k2.2⟩⟩
  by_cases c24 : nq_k x = 24
  · rw [ns_eq_24 c24, ns_eq_24 c24]
    exact ⟨fun ⟨k, k0, k1, k2, k3⟩ => ⟨k, k0, ⟨hi, k1⟩, ⟨by have := (hA i hi (k + 1) k1).2; omega, k2⟩, k3⟩, fun ⟨k, k0, k1, k2, k3⟩ => ⟨k, k0, k1.2, k2.2, k3⟩⟩
  by_cases c25 : nq_k x = 25
  · rw [ns_eq_25 c25, ns_eq_25 c25]
    exact ⟨fun z => z.elim (fun y => Or.inl ⟨hi, y⟩) (fun y => Or.inr ⟨hi, y⟩), fun z => z.elim (fun y => Or.inl y.2) (fun y => Or.inr y.2)⟩
  by_cases c26 : nq_k x = 26
  · rw [ns_eq_26 c26, ns_eq_26 c26]
    exact ⟨fun z => ⟨⟨hi, z.1⟩, hi, z.2⟩, fun z => ⟨z.1.2, z.2.2⟩⟩
  by_cases c40 : nq_k x = 40
  · rw [ns_eq_40 c40, ns_eq_40 c40]
    exact ⟨fun ⟨a, m, b⟩ => ⟨a, m, (mr_it_T hA m i hi j).mp b⟩, fun ⟨a, m, b⟩ => ⟨a, m, (mr_it_T hA m i hi j).mpr b⟩⟩
  by_cases c41 : nq_k x = 41
  · rw [ns_eq_41 c41, ns_eq_41 c41]
    exact ⟨fun ⟨k, a, m, b⟩ => ⟨k, ⟨hi, a⟩, m, (mr_it_T hA m k (hA i hi k a).2 j).mp b⟩, fun ⟨k, a, m, b⟩ => ⟨k, a.2, m, (mr_it_T hA m k (hA i hi k a.2).2 j).mpr b⟩⟩
  by_cases c42 : nq_k x = 42
  · rw [ns_eq_42 c42, ns_eq_42 c42]
    exact ⟨fun ⟨a, m, b1, b2, b⟩ => ⟨a, m, b1, b2, (mr_it_S hA m i hi j).mp b⟩, fun ⟨a, m, b1, b2, b⟩ => ⟨a, m, b1, b2, (mr_it_S hA m i hi j).mpr b⟩⟩
  · rw [ns_eq_oc (by omega), ns_eq_oc (by omega)]
/-- rows below n go on within the word -/
theorem mr_K_B {L : Nat → Nat → Int64} {S : rn_N} {w : Nat → Option Nat} {Z n : Nat} (hi : rn_i S) (hn : n ≤ rn_n S) (h : ns_sol (rn_d S) (rn_h S) w Z n (mr_S L Z)) (m : Nat) (hm : m < n) (hr : nq_row (rn_k S m)) : mr_B (mr_E L m) Z := by
  have g := ns_main h (fun a ha hr => hi.1 a (by omega) hr) (fun a ha hr => hi.2.1 a (by omega) hr) m hm hr
  intro i h1 j h2
  obtain ⟨g1, g2⟩ := (g i h1 j).mp ⟨h1, h2⟩
  exact ⟨nt_a_le _ _ g2, g1⟩
theorem mr_S_n {n Z : Nat} {A B : Nat → Nat → Int64} (g : mr_Fn n A B) (hZ : Z < 86) {m : Nat} (h : ¬ m = n) : mr_S B Z m = mr_S A Z m := by
  funext i j
  apply propext
  constructor
  · rintro ⟨h1, h2⟩
    refine ⟨h1, ?_⟩
    unfold mr_E at h2 ⊢
    rw [mr_Fn_e g (by omega) h] at h2
    exact h2
  · rintro ⟨h1, h2⟩
    refine ⟨h1, ?_⟩
    unfold mr_E at h2 ⊢
    rw [mr_Fn_e g (by omega) h]
    exact h2
/-- one node's rows more -/
theorem mr_K_n {A B : Nat → Nat → Int64} {S : rn_N} {v : Nat → Nat} {lk Z n : Nat} (hi : rn_i S) (hn : n < rn_n S) (hZ : Z < 86) (h : ns_sol (rn_d S) (rn_h S) (pd_wn v lk) Z n (mr_S A Z)) (hr : nq_row (rn_k S n)) (g : mr_Fn n A B) (e : ∀ i, i ≤ Z → ∀ j, mr_E B n i j ↔ ns_eq (rn_d S n) (rn_h S n) (rn_h S (nq_l (rn_d S n))) (pd_wn v lk) Z (mr_E A (nq_l (rn_d S n))) (mr_E A (nq_r (rn_d S n))) i j) : ns_sol (rn_d S) (rn_h S) (pd_wn v lk) Z (n + 1) (mr_S B Z) := by
  intro m hm hrm i h1 j
  have wf := hi.2.1 m (by omega) hrm
  by_cases c : m = n
  · subst c
    have e1 : mr_S B Z m i j ↔ mr_E B m i j := ⟨fun z => z.2, fun z => ⟨h1, z⟩⟩
    rw [e1, e i h1 j]
    have hb := mr_K_B hi (by omega) h
    refine (mr_ns_S hrm (fun c6 => hb _ (wf c6).1.1 (wf c6).1.2) (fun c2 => ?_) h1).trans ?_
    · have w2 := (wf (by unfold nq_two at c2; omega)).2.1 c2
      exact hb _ w2.1 w2.2
    · refine ns_eq_c hrm (fun c6 => ?_) (fun c2 => ?_)
      · exact (mr_S_n g hZ (by have := (wf c6).1.1; omega)).symm
      · exact (mr_S_n g hZ (by have := ((wf (by unfold nq_two at c2; omega)).2.1 c2).1; omega)).symm
  · rw [mr_S_n g hZ c, h m (by omega) hrm i h1 j]
    refine ns_eq_c hrm (fun c6 => ?_) (fun c2 => ?_)
    · exact (mr_S_n g hZ (by have := (wf c6).1.1; omega)).symm
    · exact (mr_S_n g hZ (by have := ((wf (by unfold nq_two at c2; omega)).2.1 c2).1; omega)).symm
theorem mr_K_f {A B : Nat → Nat → Int64} {S : rn_N} {v : Nat → Nat} {F : Nat → Nat → Prop} {lk Z n : Nat} (hq : rn_q S) (hn : n ≤ rn_n S) (hZ : Z < 86) (g : mr_Fn n A B) (h : fl_sol (rn_d S) (rn_h S) v lk n (mr_S A Z) F) : fl_sol (rn_d S) (rn_h S) v lk n (mr_S B Z) F := by
  intro m hm hp i hi
  rw [h m hm hp i hi]
  refine fl_eq_c hp (fun z => ?_) (fun _ => rfl) (fun _ => rfl)
  exact (mr_S_n g hZ (by have := (((hq m (by omega)).2 hp).2.2.1 z).1; omega)).symm
/-- one place more is written down -/
def mr_Fi (I J : Nat → Nat → Int32) : Prop := ∀ c j, ¬ c = 495 → J c j = I c j
theorem mr_X_i {T : wv_T} {I J : Nat → Nat → Int32} {S : rn_N} {m0 lk wd : Nat} {v : Nat → Nat} (h : mr_X T I S m0 lk wd v) (g : mr_Fi I J) : mr_X T J S m0 lk wd v := by
  obtain ⟨hT, ⟨h37, hn5, hm0, hM⟩, h49, hlk, h32, hwd, hv⟩ := h
  have e : ∀ c j, 462 ≤ c → c ≤ 468 → mr_V J c j = mr_V I c j := fun c j h1 h2 => by
    unfold mr_V
    split
    · exact g _ _ (by omega)
    split
    · exact g _ _ (by omega)
    split
    · exact g _ _ (by omega)
    · exact g _ _ (by omega)
  refine ⟨hT, ⟨by rw [g _ _ (by omega)]; exact h37, hn5, hm0, fun x hx => ?_⟩, by rw [g _ _ (by omega)]; exact h49, hlk, by rw [g _ _ (by omega)]; exact h32, hwd, fun k hk => by rw [g _ _ (by omega)]; exact hv k hk⟩
  obtain ⟨a1, a2, a3, a4⟩ := hM x hx
  refine ⟨(e _ _ (by omega) (by omega)).trans a1, (e _ _ (by omega) (by omega)).trans a2, fun z => ?_, fun z => ?_⟩
  · obtain ⟨f, k, f1, f2, f3, f4, f5⟩ := a3 z
    refine ⟨f, k, (e _ _ (by omega) (by omega)).trans f1, (e _ _ (by omega) (by omega)).trans f2, f3, f4, fun u hu => (f5 u hu).trans ⟨?_, ?_⟩⟩
    · rintro ⟨c, c1, c2, c3⟩
      exact ⟨c, c1, c2, by rw [e _ _ (by omega) (by omega)]; exact c3⟩
    · rintro ⟨c, c1, c2, c3⟩
      exact ⟨c, c1, c2, by rw [e _ _ (by omega) (by omega)] at c3; exact c3⟩
  · obtain ⟨f1, f2, f3, f4⟩ := a4 z
    exact ⟨(e _ _ (by omega) (by omega)).trans f1, (e _ _ (by omega) (by omega)).trans f2, fun y => (e _ _ (by omega) (by omega)).trans (f3 y), fun y => (e _ _ (by omega) (by omega)).trans (f4 y)⟩
theorem mr_nar (b : Bool) : vp_nar .boolean (wb_i b) = wb_i b := by cases b <;> rfl
theorem mr_f_at {I : Nat → Nat → Int32} {n i : Nat} {b : Bool} : mr_f (wv_u I 495 (26 * n + i) (wb_i b)) n i = b := by
  unfold mr_f
  rw [wv_u_at]
  cases b <;> rfl
theorem mr_f_no {I : Nat → Nat → Int32} {n i m a : Nat} {x : Int32} (h : ¬ (m = n ∧ a = i)) (ha : a < 26) (hi : i < 26) : mr_f (wv_u I 495 (26 * n + i) x) m a = mr_f I m a := by
  unfold mr_f
  rw [wv_u_no _ _ (by omega)]
theorem mr_Fl_no {I : Nat → Nat → Int32} {n i m lk : Nat} {x : Int32} (h : ¬ m = n) (hl : lk ≤ 24) (hi : i < lk) : mr_Fl (wv_u I 495 (26 * n + i) x) lk m = mr_Fl I lk m := by
  funext a
  apply propext
  constructor
  · rintro ⟨h1, h2⟩
    rw [mr_f_no (by omega) (by omega) (by omega)] at h2
    exact ⟨h1, h2⟩
  · rintro ⟨h1, h2⟩
    refine ⟨h1, ?_⟩
    rw [mr_f_no (by omega) (by omega) (by omega)]
    exact h2
theorem mr_K_g {A : Nat → Nat → Prop} {I : Nat → Nat → Int32} {S : rn_N} {v : Nat → Nat} {lk n i : Nat} {x : Int32} {SS : Nat → Nat → Nat → Prop} (hq : rn_q S) (hn : n ≤ rn_n S) (hl : lk ≤ 24) (hi : i < lk) (h : fl_sol (rn_d S) (rn_h S) v lk n SS (mr_Fl I lk)) : fl_sol (rn_d S) (rn_h S) v lk n SS (mr_Fl (wv_u I 495 (26 * n + i) x) lk) := by
  intro m hm hp a ha
  rw [mr_Fl_no (by omega) hl hi, h m hm hp a ha]
  have g := (hq m (by omega)).2 hp
  refine fl_eq_c hp (fun _ => rfl) (fun z => ?_) (fun z => ?_)
  · exact (mr_Fl_no (by have := (g.1 z).1; omega) hl hi).symm
  · exact (mr_Fl_no (by have := (g.2.1 z).1; omega) hl hi).symm
/-- what is known of node n up to place i -/
def mr_Kn (S : rn_N) (v : Nat → Nat) (lk Z : Nat) (I : Nat → Nat → Int32) (L : Nat → Nat → Int64) (n i : Nat) : Prop := ∀ a, a < i → fl_prop (rn_k S n) → (mr_f I n a = true ↔ fl_eq (rn_d S n) (rn_h S n) (rn_h S (nq_l (rn_d S n))) (rn_h S (nq_r (rn_d S n))) v lk (mr_S L Z (nq_l (rn_d S n))) (mr_Fl I lk (nq_l (rn_d S n))) (mr_Fl I lk (nq_r (rn_d S n))) a)
theorem mr_Kn_s {S : rn_N} {v : Nat → Nat} {lk Z n i : Nat} {I : Nat → Nat → Int32} {L : Nat → Nat → Int64} {b : Bool} (hq : rn_q S) (hn : n < rn_n S) (hl : lk ≤ 24) (hi : i < lk) (h : mr_Kn S v lk Z I L n i) (e : fl_prop (rn_k S n) → (b = true ↔ fl_eq (rn_d S n) (rn_h S n) (rn_h S (nq_l (rn_d S n))) (rn_h S (nq_r (rn_d S n))) v lk (mr_S L Z (nq_l (rn_d S n))) (mr_Fl I lk (nq_l (rn_d S n))) (mr_Fl I lk (nq_r (rn_d S n))) i)) : mr_Kn S v lk Z (wv_u I 495 (26 * n + i) (wb_i b)) L n (i + 1) := by
  intro a ha hp
  have g := (hq n hn).2 hp
  have c : ∀ a, fl_eq (rn_d S n) (rn_h S n) (rn_h S (nq_l (rn_d S n))) (rn_h S (nq_r (rn_d S n))) v lk (mr_S L Z (nq_l (rn_d S n))) (mr_Fl I lk (nq_l (rn_d S n))) (mr_Fl I lk (nq_r (rn_d S n))) a ↔ fl_eq (rn_d S n) (rn_h S n) (rn_h S (nq_l (rn_d S n))) (rn_h S (nq_r (rn_d S n))) v lk (mr_S L Z (nq_l (rn_d S n))) (mr_Fl (wv_u I 495 (26 * n + i) (wb_i b)) lk (nq_l (rn_d S n))) (mr_Fl (wv_u I 495 (26 * n + i) (wb_i b)) lk (nq_r (rn_d S n))) a := fun a => by
    refine fl_eq_c hp (fun _ => rfl) (fun z => ?_) (fun z => ?_)
    · exact (mr_Fl_no (by have := (g.1 z).1; omega) hl hi).symm
    · exact (mr_Fl_no (by have := (g.2.1 z).1; omega) hl hi).symm
  rw [← c a]
  by_cases ea : a = i
  · subst ea
    rw [mr_f_at]
    exact e hp
  · rw [mr_f_no (by omega) (by omega) (by omega)]
    exact h a (by omega) hp
theorem mr_Kn_f {S : rn_N} {v : Nat → Nat} {lk Z n : Nat} {I : Nat → Nat → Int32} {L : Nat → Nat → Int64} (h : fl_sol (rn_d S) (rn_h S) v lk n (mr_S L Z) (mr_Fl I lk)) (g : mr_Kn S v lk Z I L n lk) : fl_sol (rn_d S) (rn_h S) v lk (n + 1) (mr_S L Z) (mr_Fl I lk) := by
  intro m hm hp a ha
  by_cases e : m = n
  · subst e
    exact Iff.trans ⟨fun z => z.2, fun z => ⟨ha, z⟩⟩ (g a ha hp)
  · exact h m (by omega) hp a ha
def mr_FL (L L1 : Nat → Nat → Int64) : Prop := ∀ c j, ¬ c = 492 → ¬ c = 493 → ¬ c = 494 → ¬ (c = 460 ∧ (j = 53 ∨ j = 54)) → L1 c j = L c j
theorem mr_FL_n {A B C : Nat → Nat → Int64} {n : Nat} (h : mr_FL A B) (g : mr_Fn n B C) : mr_FL A C := fun c j a b d e => (g c j (by omega) b d e).trans (h c j a b d e)
def mr_h378 (S : rn_N) (v : Nat → Nat) (lk Z : Nat) (b : Bool) (T : wv_T) (N : Nat) (I : Nat → Nat → Int32) (L : Nat → Nat → Int64) (R : Nat → Nat → Option Nat) : Nat → Option (Nat → wv_P) := fun pc =>
  if pc = 2 then some (fun mm lv st T1 N1 I1 L1 R1 nc ns => ∃ (k : Nat), lv = [some (.ref 460), some (.int (wb_i b)), some (.int (Int32.ofNat k)), none, none, none] ∧ st = [] ∧ T1 = T ∧ N1 = N ∧ I1 = I ∧ R1 = R ∧ nc = 0 ∧ ns = 0 ∧ k ≤ 172 ∧ mm = 1000000 - k ∧ mr_FL L L1)
  else if pc = 31 then some (fun mm lv st T1 N1 I1 L1 R1 nc ns => ∃ (n : Nat) (x3 : Option Value), lv = [some (.ref 460), some (.int (wb_i b)), some (.int (Int32.ofNat n)), x3, none, none] ∧ st = [] ∧ T1 = T ∧ N1 = N ∧ mr_Fi I I1 ∧ R1 = R ∧ nc = 0 ∧ ns = 0 ∧ n ≤ rn_n S ∧ mm = 100 * (1000 - n) ∧ mr_FL L L1 ∧ ns_sol (rn_d S) (rn_h S) (pd_wn v lk) Z n (mr_S L1 Z) ∧ (b = true → fl_sol (rn_d S) (rn_h S) v lk n (mr_S L1 Z) (mr_Fl I1 lk)))
  else if pc = 56 then some (fun mm lv st T1 N1 I1 L1 R1 nc ns => ∃ (n : Nat) (x3 : Option Value), lv = [some (.ref 460), some (.int (wb_i b)), some (.int (Int32.ofNat n)), x3, none, none] ∧ st = [] ∧ T1 = T ∧ N1 = N ∧ mr_Fi I I1 ∧ R1 = R ∧ nc = 0 ∧ ns = 0 ∧ n < rn_n S ∧ mm = 100 * (1000 - n) - 1 ∧ mr_FL L L1 ∧ ns_sol (rn_d S) (rn_h S) (pd_wn v lk) Z (n + 1) (mr_S L1 Z) ∧ (b = true → fl_sol (rn_d S) (rn_h S) v lk n (mr_S L1 Z) (mr_Fl I1 lk)))
  else if pc = 58 then some (fun mm lv st T1 N1 I1 L1 R1 nc ns => ∃ (n i : Nat), lv = [some (.ref 460), some (.int (wb_i b)), some (.int (Int32.ofNat n)), some (.int (Int32.ofNat i)), none, none] ∧ st = [] ∧ T1 = T ∧ N1 = N ∧ mr_Fi I I1 ∧ R1 = R ∧ nc = 0 ∧ ns = 0 ∧ n < rn_n S ∧ i ≤ lk ∧ mm = 100 * (1000 - n) - 2 - i ∧ mr_FL L L1 ∧ ns_sol (rn_d S) (rn_h S) (pd_wn v lk) Z (n + 1) (mr_S L1 Z) ∧ (b = true → fl_sol (rn_d S) (rn_h S) v lk n (mr_S L1 Z) (mr_Fl I1 lk) ∧ mr_Kn S v lk Z I1 L1 n i))
  else none
def mr_c378 : wv_c1 := fun as T N I L R q => ∃ (S : rn_N) (m0 lk wd : Nat) (v : Nat → Nat) (b : Bool), as = [.ref 460, .int (wb_i b)] ∧ mr_X T I S m0 lk wd v ∧ rn_i S ∧ rn_q S ∧ (∀ x, x < rn_n S → nq_row (rn_k S x) → (rn_k S x = 42 → nq_b (rn_d S x) < 10000) ∧ (43 ≤ rn_k S x ∧ rn_k S x ≤ 44 → nq_a (rn_d S x) < 10000)) ∧ ∀ I1 L1, mr_Fi I I1 → mr_FL L L1 → ns_sol (rn_d S) (rn_h S) (pd_wn v lk) (lk + wd) (rn_n S) (mr_S L1 (lk + wd)) → (b = true → fl_sol (rn_d S) (rn_h S) v lk (rn_n S) (mr_S L1 (lk + wd)) (mr_Fl I1 lk)) → q (.inl none) T N I1 L1 R 0 0
set_option maxRecDepth 100000 in
theorem wM_378 : ∃ cb ci np, pt_mt 378 = some (32, cb, 4, false, none, ci, np) := ⟨_, _, _, rfl⟩
set_option maxRecDepth 100000 in
set_option maxHeartbeats 4000000 in
theorem mr_look {sc : pt_Sc} {d : Nat} : wv_C wm_fx sc (d + 1 + 1 + 1 + 1 + 1 + 1) 378 mr_c378 := by
  rintro as T N I L R q ⟨S, m0, lk, wd, v, b, rfl, hX0, hI, hq, hab, h⟩ w0 HR
  obtain ⟨cb, ci, np, hm⟩ := wM_378
  have hc379 : wv_C wm_fx sc (d + 1 + 1 + 1 + 1 + 1) 379 mr_c379 := wv_C_deep (by omega) (mr_isRow (d := d))
  have hc380 : wv_C wm_fx sc (d + 1 + 1 + 1 + 1 + 1) 380 mr_c380 := wv_C_deep (by omega) (mr_rows (d := d))
  have hc403 : wv_C wm_fx sc (d + 1 + 1 + 1 + 1 + 1) 403 mr_c403 := wv_C_deep (by omega) (mr_failsFrom (d := d))
  refine wv_meth (hh := none) rfl (sp := wv_sp [(379, mr_c379), (380, mr_c380), (403, mr_c403)]) (hd := mr_h378 S v lk (lk + wd) b T N I L R) (n := 300) (n1 := 300) hm zc_378 rfl (wv_sp_ok (fun q hq => by
    rcases List.mem_cons.mp hq with h | h
    · rw [h]; exact hc379
    rcases List.mem_cons.mp h with h | h
    · rw [h]; exact hc380
    rw [List.mem_singleton.mp h]; exact hc403)) ?_ ?_ HR
  · exact ⟨_, 0, rfl, rfl, rfl, rfl, rfl, rfl, rfl, rfl, by omega, rfl, fun c j _ _ _ _ => rfl⟩
  · intro pc P hP m lv st T1 N1 I1 L1 R1 nc ns hh
    have hZ : lk + wd < 86 := by have := hX0.2.2.2.1; have := hX0.2.2.2.2.2.1; omega
    have hT := hX0.1
    unfold mr_h378 at hP
    by_cases p2 : pc = 2
    · rw [if_pos p2] at hP
      cases hP
      subst p2
      obtain ⟨k, rfl, rfl, rfl, rfl, rfl, rfl, rfl, rfl, hk, rfl, hF⟩ := hh
      have ek := wi_on (n := k) (by omega)
      have ekn := wi_onn (n := k) (by omega)
      have e172 : ((Int16.ofInt 172).toInt32).toInt = 172 := rfl
      refine ⟨fun w => ?_, fun w => ?_⟩
      · exact ⟨100 * (1000 - 0), by omega, 0, none, rfl, rfl, rfl, rfl, fun c j _ => rfl, rfl, rfl, rfl, by omega, rfl, hF, fun n hn => by omega, fun _ n hn => by omega⟩
      rw [wi_le, e172, ek] at w
      refine ⟨_, wm_t hT rfl, pp_b (c := 172) (by omega) (by omega), by decide, ?_⟩
      refine ⟨_, wm_t hT rfl, pp_b (c := 172) (by omega) (by omega), by decide, ?_⟩
      refine ⟨1000000 - (k + 1), by omega, k + 1, by rw [← wq_4s k]; rfl, rfl, rfl, rfl, rfl, rfl, rfl, rfl, by omega, rfl, fun c j a1 a2 a3 a4 => ?_⟩
      rw [wv_u_no _ _ (by omega), wv_u_no _ _ (by omega)]
      exact hF c j a1 a2 a3 a4
    rw [if_neg p2] at hP
    by_cases p31 : pc = 31
    · rw [if_pos p31] at hP
      cases hP
      subst p31
      obtain ⟨n, x3, rfl, rfl, rfl, rfl, hFi, rfl, rfl, rfl, hn, rfl, hF, hK, hG⟩ := hh
      have hX := mr_X_i hX0 hFi
      obtain ⟨_, ⟨h37, hn5, hm0, hM⟩, h49, hlk, h32, hwd, hv⟩ := hX
      have hX := mr_X_i hX0 hFi
      have en := wi_on (n := n) (by omega)
      have enn := wi_onn (n := n) (by omega)
      have es := wi_on (n := rn_n S) (by omega)
      refine ⟨fun w => ?_, fun w => ?_⟩
      · rw [h37, wi_le, es, en] at w
        have e : n = rn_n S := by omega
        subst e
        exact h _ _ hFi hF hK hG
      rw [h37, wi_le, es, en] at w
      have hn : n < rn_n S := by omega
      have e1 : I1 469 n = Int32.ofNat (rn_k S n) := (hM n hn).1
      refine ⟨_, wm_t hT rfl, pp_b (c := 800) (by omega) (by omega), ?_⟩
      rw [enn, e1]
      refine ⟨rn_k S n, rfl, by have := (hq n hn).1; unfold rn_k; omega, fun hr => ?_, fun hr => ?_⟩
      · refine ⟨fun z => absurd z (by decide), fun _ => ?_⟩
        refine ⟨S, m0, lk, wd, n, v, rfl, hX, hn, hr, hI.2.1, hab n hn hr, mr_K_B hI (by omega) hK, fun L2 s2 f2 => ?_⟩
        exact ⟨100 * (1000 - n) - 1, by omega, n, x3, rfl, rfl, rfl, rfl, hFi, rfl, rfl, rfl, hn, rfl, mr_FL_n hF f2, mr_K_n hI hn hZ hK hr f2 s2, fun z => mr_K_f hq (by omega) hZ f2 (hG z)⟩
      · refine ⟨fun _ => ?_, fun z => absurd rfl z⟩
        refine ⟨100 * (1000 - n) - 1, by omega, n, x3, rfl, rfl, rfl, rfl, hFi, rfl, rfl, rfl, hn, rfl, hF, fun m hm hr2 => ?_, hG⟩
        by_cases e : m = n
        · subst e
          exact (hr hr2).elim
        · exact hK m (by omega) hr2
    rw [if_neg p31] at hP
    by_cases p56 : pc = 56
    · rw [if_pos p56] at hP
      cases hP
      subst p56
      obtain ⟨n, x3, rfl, rfl, rfl, rfl, hFi, rfl, rfl, rfl, hn, rfl, hF, hK, hG⟩ := hh
      exact ⟨100 * (1000 - n) - 2 - 0, by have := hX0.2.1.2.1; omega, n, 0, rfl, rfl, rfl, rfl, hFi, rfl, rfl, rfl, hn, by omega, rfl, hF, hK, fun z => ⟨hG z, fun a ha => by omega⟩⟩
    rw [if_neg p56] at hP
    by_cases p58 : pc = 58
    · rw [if_pos p58] at hP
      cases hP
      subst p58
      obtain ⟨n, i, rfl, rfl, rfl, rfl, hFi, rfl, rfl, rfl, hn, hi, rfl, hF, hK, hG⟩ := hh
      have hX := mr_X_i hX0 hFi
      obtain ⟨_, ⟨h37, hn5, hm0, hM⟩, h49, hlk, h32, hwd, hv⟩ := hX
      have hX := mr_X_i hX0 hFi
      have ei := wi_on (n := i) (by omega)
      have el := wi_on (n := lk) (by omega)
      refine ⟨fun w => ?_, fun w => ?_⟩
      · rw [h49, wi_le, el, ei] at w
        have e : i = lk := by omega
        subst e
        exact ⟨100 * (1000 - (n + 1)), by omega, n + 1, _, by rw [← wq_4s n]; rfl, rfl, rfl, rfl, hFi, rfl, rfl, rfl, by omega, rfl, hF, hK, fun z => mr_Kn_f (hG z).1 (hG z).2⟩
      rw [h49, wi_le, el, ei] at w
      have hi2 : i < lk := by omega
      refine ⟨fun w2 => ?_, fun w2 => ?_⟩
      · have w2 := wb_i_2.mp (fun z => z w2)
        exact ⟨100 * (1000 - (n + 1)), by omega, n + 1, _, by rw [← wq_4s n]; rfl, rfl, rfl, rfl, hFi, rfl, rfl, rfl, by omega, rfl, hF, hK, fun z => by rw [w2] at z; cases z⟩
      have w2 := wb_i_1.mp w2
      subst w2
      have e1 := mr_iz (n := n) (i := i) (by omega) (by omega)
      have n1 := wi_onn (n := 26 * n + i) (by omega)
      refine ⟨S, m0, lk, wd, n, i, v, rfl, hX, hn, hq, hi2, fun hp b2 hb2 => ?_, fun hp => ?_⟩
      · refine ⟨_, wm_t hT rfl, by rw [e1]; exact pp_b (c := 20800) (by omega) (by omega), by decide, ?_⟩
        rw [e1, n1, mr_nar]
        refine ⟨100 * (1000 - n) - 2 - (i + 1), by omega, n, i + 1, by rw [← wq_4s i]; rfl, rfl, rfl, rfl, fun c j hc => ?_, rfl, rfl, rfl, hn, by omega, rfl, hF, hK, fun _ => ⟨mr_K_g (A := fun _ _ => True) hq (by omega) hlk hi2 (hG rfl).1, mr_Kn_s (b := b2) hq hn hlk hi2 (hG rfl).2 (fun _ => hb2)⟩⟩
        rw [wv_u_no _ _ (by omega)]
        exact hFi c j hc
      · refine ⟨_, wm_t hT rfl, by rw [e1]; exact pp_b (c := 20800) (by omega) (by omega), by decide, ?_⟩
        rw [e1, n1, show vp_nar .boolean 0 = wb_i false from rfl]
        refine ⟨100 * (1000 - n) - 2 - (i + 1), by omega, n, i + 1, by rw [← wq_4s i]; rfl, rfl, rfl, rfl, fun c j hc => ?_, rfl, rfl, rfl, hn, by omega, rfl, hF, hK, fun _ => ⟨mr_K_g (A := fun _ _ => True) hq (by omega) hlk hi2 (hG rfl).1, mr_Kn_s (b := false) hq hn hlk hi2 (hG rfl).2 (fun z => (hp z).elim)⟩⟩
        rw [wv_u_no _ _ (by omega)]
        exact hFi c j hc
    rw [if_neg p58] at hP
    cases hP
