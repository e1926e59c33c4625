/-! ===== the class weaves: pieces ===== -/
/-- a piece of the weaver: what is woven, from state lo on -/
def ww_P (I : Nat → Nat → Int32) (L : Nat → Nat → Int64) (k lo : Nat) (A : nt_A) : Prop := I 15 k = Int32.ofNat lo ∧ 1 ≤ nt_n A ∧ (∀ s t, s < nt_n A → t < 64 → (nb (L 11 (lo + s)) t = true ↔ ∃ y, y < nt_n A ∧ t = lo + y ∧ nt_E A s y = true)) ∧
  (∀ s y v, s < nt_n A → y < nt_n A → nt_E A s y = true → v < 64 → nb (L 12 ((lo + s) * 41 + (lo + y))) v = nt_M A s y v) ∧ (∀ s v, s < nt_n A → v < 64 → nb (L 13 (lo + s)) v = nt_H A s v) ∧
  (∀ t, t < 64 → (nb (L 16 k) t = true ↔ ∃ y, y < nt_n A ∧ t = lo + y ∧ nt_F A y = true)) ∧ (∀ t, t < 64 → (nb (L 17 k) t = true ↔ ∃ y, y < nt_n A ∧ t = lo + y ∧ nt_L A y = true)) ∧ I 18 k = wb_i (nt_e A)
abbrev ww_s : Type := List (Nat × nt_A)
def ww_sz : ww_s → Nat
  | [] => 0
  | x :: l => nt_n x.2 + ww_sz l
def ww_ok (I : Nat → Nat → Int32) (L : Nat → Nat → Int64) : ww_s → Prop
  | [] => True
  | x :: l => ww_P I L l.length (1 + ww_sz l) x.2 ∧ ww_ok I L l
def ww_ws (I : Nat → Nat → Int32) : ww_s → Prop
  | [] => True
  | x :: l => (I 14 l.length = Int32.ofNat x.1 ∧ x.1 ≤ 1000) ∧ ww_ws I l
/-- the weaver holds these pieces, the top one first -/
def ww_W (fl : Bool) (I : Nat → Nat → Int32) (L : Nat → Nat → Int64) (ps : ww_s) : Prop := I 10 8 = Int32.ofNat ps.length ∧ ps.length ≤ 201 ∧ I 10 10 = wb_i fl ∧ ww_ws I ps ∧ (fl = false → I 10 9 = Int32.ofNat (ww_sz ps) ∧ ww_sz ps ≤ 40 ∧ ww_ok I L ps)
/-- what weaving leaves alone -/
def ww_F (I : Nat → Nat → Int32) (L : Nat → Nat → Int64) (I1 : Nat → Nat → Int32) (L1 : Nat → Nat → Int64) : Prop := (∀ c j, ¬ (c = 10 ∧ 8 ≤ j ∧ j ≤ 10) → ¬ (c = 14 ∨ c = 15 ∨ c = 18) → I1 c j = I c j) ∧ ∀ c j, ¬ (c = 11 ∨ c = 12 ∨ c = 13 ∨ c = 16 ∨ c = 17) → L1 c j = L c j
theorem ww_P_eq {I I1 : Nat → Nat → Int32} {L L1 : Nat → Nat → Int64} {k lo : Nat} {A : nt_A} (h : ww_P I L k lo A) (h15 : I1 15 k = I 15 k) (h18 : I1 18 k = I 18 k) (h16 : L1 16 k = L 16 k) (h17 : L1 17 k = L 17 k) (hs : ∀ s, s < nt_n A → (∀ t, t < 64 → (nb (L1 11 (lo + s)) t = true ↔ nb (L 11 (lo + s)) t = true)) ∧ L1 13 (lo + s) = L 13 (lo + s)) (hm : ∀ s y, s < nt_n A → y < nt_n A → ∀ v, v < 64 → nb (L1 12 ((lo + s) * 41 + (lo + y))) v = nb (L 12 ((lo + s) * 41 + (lo + y))) v) : ww_P I1 L1 k lo A := by
  obtain ⟨p1, p2, p3, p4, p5, p6, p7, p8⟩ := h
  refine ⟨by rw [h15]; exact p1, p2, fun s t a b => ?_, fun s y v a b c d => ?_, fun s v a b => ?_, by rw [h16]; exact p6, by rw [h17]; exact p7, by rw [h18]; exact p8⟩
  · rw [(hs s a).1 t b]; exact p3 s t a b
  · rw [hm s y a b v d]; exact p4 s y v a b c d
  · rw [(hs s a).2]; exact p5 s v a b
/-- pieces below stay -/
theorem ww_ok_eq {I I1 : Nat → Nat → Int32} {L L1 : Nat → Nat → Int64} : ∀ {ps : ww_s}, ww_ok I L ps → (∀ k, k < ps.length → I1 15 k = I 15 k ∧ I1 18 k = I 18 k ∧ L1 16 k = L 16 k ∧ L1 17 k = L 17 k) → (∀ s, 1 ≤ s → s ≤ ww_sz ps → (∀ t, t < 64 → (nb (L1 11 s) t = true ↔ nb (L 11 s) t = true)) ∧ L1 13 s = L 13 s) → (∀ s t, 1 ≤ s → s ≤ ww_sz ps → 1 ≤ t → t ≤ ww_sz ps → ∀ v, v < 64 → nb (L1 12 (s * 41 + t)) v = nb (L 12 (s * 41 + t)) v) → ww_ok I1 L1 ps
  | [], _, _, _, _ => trivial
  | x :: l, h, hk, hs, hm => by
    have e : ww_sz (x :: l) = nt_n x.2 + ww_sz l := rfl
    rw [List.length_cons] at hk
    refine ⟨?_, ww_ok_eq h.2 (fun k hk2 => hk k (by omega)) (fun s a b => hs s a (by omega)) (fun s t a b c d => hm s t a (by omega) c (by omega))⟩
    obtain ⟨a1, a2, a3, a4⟩ := hk l.length (by omega)
    exact ww_P_eq h.1 a1 a2 a3 a4 (fun s hs2 => hs _ (by omega) (by omega)) (fun s y a b => hm _ _ (by omega) (by omega) (by omega) (by omega))
theorem ww_ws_eq {I I1 : Nat → Nat → Int32} : ∀ {ps : ww_s}, ww_ws I ps → (∀ k, k < ps.length → I1 14 k = I 14 k) → ww_ws I1 ps
  | [], _, _ => trivial
  | x :: l, h, hk => by
    rw [List.length_cons] at hk
    exact ⟨by rw [hk l.length (by omega)]; exact h.1, ww_ws_eq h.2 (fun k hk2 => hk k (by omega))⟩
/-- two pieces side by side, with steps from one to the other -/
theorem ww_side {I : Nat → Nat → Int32} {L L1 : Nat → Nat → Int64} {k k2 lo : Nat} {A B : nt_A} {C : Nat → Nat → Prop} {hd : Nat → Nat → Int64} {X : Nat → Nat → Bool} {Y : Nat → Nat → Nat → Bool} (hA : ww_P I L k lo A) (hB : ww_P I L k2 (lo + nt_n A) B) (h41 : lo + nt_n A + nt_n B ≤ 41) (hs : ww_stp L L1 C hd) (hC : ∀ s t, s < 41 → t < 64 → (C s t ↔ ∃ x y, x < nt_n A ∧ y < nt_n B ∧ s = lo + x ∧ t = lo + nt_n A + y ∧ X x y = true))
    (hY : ∀ x y v, x < nt_n A → y < nt_n B → X x y = true → v < 64 → nb (hd (lo + x) (lo + nt_n A + y)) v = Y x y v) :
    (∀ s t, s < nt_n A + nt_n B → t < 64 → (nb (L1 11 (lo + s)) t = true ↔ ∃ y, y < nt_n A + nt_n B ∧ t = lo + y ∧ nt_sE A B X s y = true)) ∧ (∀ s y v, s < nt_n A + nt_n B → y < nt_n A + nt_n B → nt_sE A B X s y = true → v < 64 → nb (L1 12 ((lo + s) * 41 + (lo + y))) v = nt_sM A B Y s y v) := by
  obtain ⟨_, _, a3, a4, _⟩ := hA
  obtain ⟨_, _, b3, b4, _⟩ := hB
  obtain ⟨s1, s2, _⟩ := hs
  constructor
  · intro s t h1 h2
    rw [s1 (lo + s) t (by omega) h2, hC (lo + s) t (by omega) h2]
    by_cases hsA : s < nt_n A
    · rw [a3 s t hsA h2]
      constructor
      · rintro (⟨y, y1, y2, y3⟩ | ⟨x, y, x1, y1, e1, e2, hx⟩)
        · refine ⟨y, by omega, y2, ?_⟩
          unfold nt_sE
          rw [if_pos hsA, if_pos y1]
          exact y3
        · have : x = s := by omega
          subst this
          refine ⟨nt_n A + y, by omega, by omega, ?_⟩
          unfold nt_sE
          rw [if_pos hsA, if_neg (by omega), Nat.add_sub_cancel_left]
          exact hx
      · rintro ⟨y, y1, y2, y3⟩
        unfold nt_sE at y3
        rw [if_pos hsA] at y3
        by_cases hy : y < nt_n A
        · rw [if_pos hy] at y3
          exact Or.inl ⟨y, hy, y2, y3⟩
        · rw [if_neg hy] at y3
          exact Or.inr ⟨s, y - nt_n A, hsA, by omega, rfl, by omega, y3⟩
    · have b := b3 (s - nt_n A) t (by omega) h2
      rw [show lo + nt_n A + (s - nt_n A) = lo + s by omega] at b
      rw [b]
      constructor
      · rintro (⟨y, y1, y2, y3⟩ | ⟨x, y, x1, y1, e1, e2, hx⟩)
        · refine ⟨nt_n A + y, by omega, by omega, ?_⟩
          unfold nt_sE
          rw [if_neg hsA, if_neg (by omega), Nat.add_sub_cancel_left]
          exact y3
        · omega
      · rintro ⟨y, y1, y2, y3⟩
        unfold nt_sE at y3
        rw [if_neg hsA] at y3
        by_cases hy : y < nt_n A
        · rw [if_pos hy] at y3
          cases y3
        · rw [if_neg hy] at y3
          exact Or.inl ⟨y - nt_n A, by omega, by omega, y3⟩
  · intro s y v h1 h2 hE hv
    have m2 := s2 (lo + s) (lo + y) v (by omega) (by omega) hv
    have hc := hC (lo + s) (lo + y) (by omega) (by omega)
    unfold nt_sE at hE
    unfold nt_sM
    by_cases hsA : s < nt_n A
    · rw [if_pos hsA] at hE ⊢
      by_cases hy : y < nt_n A
      · rw [if_pos hy] at hE ⊢
        rw [m2.2 (fun z => by obtain ⟨x, y2, _, _, _, e2, _⟩ := hc.mp z; omega)]
        exact a4 s y v hsA hy hE hv
      · rw [if_neg hy] at hE ⊢
        rw [m2.1 (hc.mpr ⟨s, y - nt_n A, hsA, by omega, rfl, by omega, hE⟩)]
        have e := hY s (y - nt_n A) v hsA (by omega) hE hv
        rw [show lo + nt_n A + (y - nt_n A) = lo + y by omega] at e
        rw [e]
        have : nb (L 11 (lo + s)) (lo + y) = false := by
          cases hb : nb (L 11 (lo + s)) (lo + y)
          · rfl
          · obtain ⟨z, z1, z2, _⟩ := (a3 s (lo + y) hsA (by omega)).mp hb
            omega
        rw [this]
        rfl
    · rw [if_neg hsA] at hE ⊢
      by_cases hy : y < nt_n A
      · rw [if_pos hy] at hE
        cases hE
      · rw [if_neg hy] at hE
        rw [m2.2 (fun z => by obtain ⟨x, y2, x1, _, e1, _, _⟩ := hc.mp z; omega)]
        have := b4 (s - nt_n A) (y - nt_n A) v (by omega) (by omega) hE hv
        rw [show lo + nt_n A + (s - nt_n A) = lo + s by omega, show lo + nt_n A + (y - nt_n A) = lo + y by omega] at this
        exact this
/-- letters of entry, side by side -/
theorem ww_sideH {I : Nat → Nat → Int32} {L : Nat → Nat → Int64} {k k2 lo : Nat} {A B : nt_A} (hA : ww_P I L k lo A) (hB : ww_P I L k2 (lo + nt_n A) B) : ∀ s v, s < nt_n A + nt_n B → v < 64 → nb (L 13 (lo + s)) v = nt_sH A B s v := by
  obtain ⟨_, _, _, _, a5, _⟩ := hA
  obtain ⟨_, _, _, _, b5, _⟩ := hB
  intro s v h1 hv
  unfold nt_sH
  by_cases h : s < nt_n A
  · rw [if_pos h]
    exact a5 s v h hv
  · rw [if_neg h]
    have := b5 (s - nt_n A) v (by omega) hv
    rw [show lo + nt_n A + (s - nt_n A) = lo + s by omega] at this
    exact this
/-- a set of states side by side -/
theorem ww_set {x y z : Int64} {lo a b : Nat} {f g h : Nat → Bool} {bx b2 : Bool} (hx : ∀ t, t < 64 → (nb x t = true ↔ ∃ y, y < a ∧ t = lo + y ∧ f y = true)) (hy : ∀ t, t < 64 → (nb y t = true ↔ ∃ y, y < b ∧ t = lo + a + y ∧ g y = true)) (hz : ∀ t, t < 64 → (nb z t = true ↔ (bx = true ∧ nb x t = true) ∨ (b2 = true ∧ nb y t = true))) (h1 : ∀ s, s < a → (h s = true ↔ bx = true ∧ f s = true)) (h2 : ∀ s, s < b → (h (a + s) = true ↔ b2 = true ∧ g s = true)) : ∀ t, t < 64 → (nb z t = true ↔ ∃ y, y < a + b ∧ t = lo + y ∧ h y = true) := by
  intro t ht
  rw [hz t ht, hx t ht, hy t ht]
  constructor
  · rintro (⟨c, y, y1, y2, y3⟩ | ⟨c, y, y1, y2, y3⟩)
    · exact ⟨y, by omega, y2, (h1 y y1).mpr ⟨c, y3⟩⟩
    · exact ⟨a + y, by omega, by omega, (h2 y y1).mpr ⟨c, y3⟩⟩
  · rintro ⟨y, y1, y2, y3⟩
    by_cases hy : y < a
    · have := (h1 y hy).mp y3
      exact Or.inl ⟨this.1, y, hy, y2, this.2⟩
    · have e : a + (y - a) = y := by omega
      have := (h2 (y - a) (by omega)).mp (by rw [e]; exact y3)
      exact Or.inr ⟨this.1, y - a, by omega, by omega, this.2⟩
def ww_c117 : wv_c1 := fun as T N I L R q => as = [.ref 10] ∧ wm_T T ∧ ∀ I1, ww_W false I1 L [] → ww_F I L I1 L → q (.inl none) T N I1 L R 0 0
set_option maxRecDepth 100000 in
theorem wM_117 : ∃ cb ci np, pt_mt 117 = some (5, cb, 1, false, none, ci, np) := ⟨_, _, _, rfl⟩
set_option maxRecDepth 100000 in
set_option maxHeartbeats 4000000 in
theorem ww_restart {sc : pt_Sc} {d : Nat} : wv_C wm_fx sc (d + 1) 117 ww_c117 := by
  rintro as T N I L R q ⟨rfl, hT, h⟩ w0 HR
  obtain ⟨cb, ci, np, hm⟩ := wM_117
  refine wv_meth (hh := none) rfl (sp := fun _ _ _ _ _ _ _ _ => False) (hd := fun _ => none) (n := 0) (n1 := 300) hm zc_117 rfl (fun k as T N I L R q h => by cases h) ?_ (fun pc P h => by cases h) HR
  refine ⟨⟨rfl, rfl⟩, h _ ⟨?_, by decide, wv_u_at _ _ _ _, trivial, fun _ => ⟨?_, by decide, trivial⟩⟩ ⟨fun c j a b => ?_, fun _ _ _ => rfl⟩⟩
  · rw [wv_u_no _ _ (by omega), wv_u_no _ _ (by omega), wv_u_at]
    rfl
  · rw [wv_u_no _ _ (by omega), wv_u_at]
    rfl
  · rw [wv_u_no _ _ (by omega), wv_u_no _ _ (by omega), wv_u_no _ _ (by omega)]
def ww_c160 : wv_c1 := fun as T N I L R q => ∃ (fl : Bool) (x : Nat × nt_A) (l : ww_s), as = [.ref 10] ∧ wm_T T ∧ ww_W fl I L (x :: l) ∧ q (.inl (some (.int (Int32.ofNat x.1)))) T N I L R 0 0
set_option maxRecDepth 100000 in
theorem wM_160 : ∃ cb ci np, pt_mt 160 = some (5, cb, 1, false, some .int, ci, np) := ⟨_, _, _, rfl⟩
set_option maxRecDepth 100000 in
set_option maxHeartbeats 4000000 in
theorem ww_weight {sc : pt_Sc} {d : Nat} : wv_C wm_fx sc (d + 1) 160 ww_c160 := by
  rintro as T N I L R q ⟨fl, x, l, rfl, hT, ⟨w1, w2, w3, w4, w5⟩, h⟩ w0 HR
  obtain ⟨cb, ci, np, hm⟩ := wM_160
  refine wv_meth (hh := none) rfl (sp := fun _ _ _ _ _ _ _ _ => False) (hd := fun _ => none) (n := 0) (n1 := 300) hm zc_160 rfl (fun k as T N I L R q h => by cases h) ?_ (fun pc P h => by cases h) HR
  rw [List.length_cons] at w1 w2
  have el := wi_on (n := l.length + 1) (by omega)
  have e1 := wi_s1 (a := l.length + 1) (by omega) (by omega)
  have e2 := wi_on (n := l.length) (by omega)
  have e3 := wi_onn (n := l.length) (by omega)
  refine ⟨fun h1 => ?_, fun h1 => ?_⟩
  · rw [w1, wi_le, el, wi_0] at h1
    omega
  · refine ⟨_, wm_t hT rfl, by rw [w1, e1, Nat.add_sub_cancel, wi_le, e2, wi_0]; omega, ?_⟩
    rw [w1, e1, Nat.add_sub_cancel, e3, w4.1.1]
    exact h
def ww_c150 : wv_c1 := fun as T N I L R q => ∃ (fl : Bool) (x y : Nat × nt_A) (l : ww_s), as = [.ref 10] ∧ wm_T T ∧ ww_W fl I L (y :: x :: l) ∧ q (.inl (some (.int (Int32.ofNat (y.1 + x.1))))) T N I L R 0 0
set_option maxRecDepth 100000 in
theorem wM_150 : ∃ cb ci np, pt_mt 150 = some (5, cb, 1, false, some .int, ci, np) := ⟨_, _, _, rfl⟩
set_option maxRecDepth 100000 in
set_option maxHeartbeats 4000000 in
theorem ww_together {sc : pt_Sc} {d : Nat} : wv_C wm_fx sc (d + 1) 150 ww_c150 := by
  rintro as T N I L R q ⟨fl, x, y, l, rfl, hT, ⟨w1, w2, w3, w4, w5⟩, h⟩ w0 HR
  obtain ⟨cb, ci, np, hm⟩ := wM_150
  refine wv_meth (hh := none) rfl (sp := fun _ _ _ _ _ _ _ _ => False) (hd := fun _ => none) (n := 0) (n1 := 300) hm zc_150 rfl (fun k as T N I L R q h => by cases h) ?_ (fun pc P h => by cases h) HR
  rw [List.length_cons, List.length_cons] at w1 w2
  have el := wi_on (n := l.length + 1 + 1) (by omega)
  have e1 := wi_s1 (a := l.length + 1 + 1) (by omega) (by omega)
  have e2 := wi_s2 (a := l.length + 1 + 1) (by omega) (by omega)
  have e3 := wi_on (n := l.length) (by omega)
  have e4 := wi_onn (n := l.length) (by omega)
  have e5 := wi_on (n := l.length + 1) (by omega)
  have e6 := wi_onn (n := l.length + 1) (by omega)
  rw [show l.length + 1 + 1 - 1 = l.length + 1 by omega] at e1
  rw [show l.length + 1 + 1 - 2 = l.length by omega] at e2
  have ey := w4.1.1
  rw [List.length_cons] at ey
  refine ⟨fun h1 => ?_, fun h1 => ?_⟩
  · refine ⟨_, wm_t hT rfl, by rw [w1, e1, wi_le, e5, wi_0]; omega, _, wm_t hT rfl, by rw [w1, e2, wi_le, e3, wi_0]; omega, ?_⟩
    rw [← wi_ona] at h
    rw [w1, e1, e2, e4, e6, w4.2.1.1, ey]
    exact h
  · rw [w1, wi_le, el, show (Int32.ofInt 2).toInt = 2 from rfl] at h1
    omega
def ww_c151 : wv_c1 := fun as T N I L R q => ∃ (fl : Bool) (w : Nat) (x y : Nat × nt_A) (l : ww_s), as = [.ref 10, .int (Int32.ofNat w)] ∧ wm_T T ∧ ww_W fl I L (y :: x :: l) ∧ w < 2147483648 ∧ q (.inl (some (.int (wb_i (! fl))))) T N (wv_u (wv_u I 10 8 (Int32.ofNat (l.length + 1))) 14 l.length (Int32.ofNat (min w 1000))) L R 0 0
set_option maxRecDepth 100000 in
theorem wM_151 : ∃ cb ci np, pt_mt 151 = some (5, cb, 2, false, some .boolean, ci, np) := ⟨_, _, _, rfl⟩
set_option maxRecDepth 100000 in
set_option maxHeartbeats 4000000 in
theorem ww_mergeTwo {sc : pt_Sc} {d : Nat} : wv_C wm_fx sc (d + 1) 151 ww_c151 := by
  rintro as T N I L R q ⟨fl, w, x, y, l, rfl, hT, ⟨w1, w2, w3, w4, w5⟩, hw, h⟩ w0 HR
  obtain ⟨cb, ci, np, hm⟩ := wM_151
  refine wv_meth (hh := none) rfl (sp := fun _ _ _ _ _ _ _ _ => False) (hd := fun _ => none) (n := 0) (n1 := 300) hm zc_151 rfl (fun k as T N I L R q h => by cases h) ?_ (fun pc P h => by cases h) HR
  rw [List.length_cons, List.length_cons] at w1 w2
  have el := wi_on (n := l.length + 1 + 1) (by omega)
  have e1 := wi_s1 (a := l.length + 1 + 1) (by omega) (by omega)
  have e2 := wi_s1 (a := l.length + 1) (by omega) (by omega)
  have e3 := wi_on (n := l.length) (by omega)
  have e4 := wi_onn (n := l.length) (by omega)
  rw [show l.length + 1 + 1 - 1 = l.length + 1 by omega] at e1
  rw [show l.length + 1 - 1 = l.length by omega] at e2
  have e1000 : (Int16.ofInt 1000).toInt32 = Int32.ofNat 1000 := rfl
  have emin : (if (Int16.ofInt 1000).toInt32 < Int32.ofNat w then (Int16.ofInt 1000).toInt32 else Int32.ofNat w) = Int32.ofNat (min w 1000) := by
    rw [e1000]
    by_cases hc : 1000 < w
    · rw [if_pos (by rw [wi_lt, wi_on hw, wi_on (by omega)]; omega), Nat.min_eq_right (by omega)]
    · rw [if_neg (by rw [wi_lt, wi_on hw, wi_on (by omega)]; omega), Nat.min_eq_left (by omega)]
  refine ⟨fun h1 => ?_, fun h1 => ?_⟩
  · refine ⟨_, wm_t hT rfl, by rw [wv_u_at, w1, e1, e2, wi_le, e3, wi_0]; omega, by decide, ?_⟩
    rw [emin, wv_u_at, w1, e1, e2, e4]
    refine (?_ : (_ → _) ∧ (_ → _))
    rw [wv_u_no _ _ (by omega), wv_u_no _ _ (by omega), w3]
    refine ⟨fun h2 => ?_, fun h2 => ?_⟩
    · rw [wb_i_1.mp h2] at h
      exact ⟨⟨rfl, rfl⟩, h⟩
    · rw [wb_i_2.mp h2] at h
      exact ⟨⟨rfl, rfl⟩, h⟩
  · rw [w1, wi_le, el, show (Int32.ofInt 2).toInt = 2 from rfl] at h1
    omega
