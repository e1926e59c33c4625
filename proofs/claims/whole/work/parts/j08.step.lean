/-! ===== the class: a property takes a letter ===== -/
theorem sc_f_c {P : pd_P} {v : Nat → Nat} {W V : Nat → Nat → Prop} {n s : Nat} (h : ∀ i, i ≤ n → (W s i ↔ V s i)) : sc_f P v W n s → sc_f P v V n s := by
  rintro (⟨k, a, b⟩ | ⟨k, i, a, b, c⟩ | ⟨k, i, a, ⟨i0, b, c⟩, d⟩ | ⟨k, ⟨i, a, b, c⟩, d⟩)
  · exact Or.inl ⟨k, (h n (Nat.le_refl _)).mp a, b⟩
  · exact Or.inr (Or.inl ⟨k, i, a, (h i a).mp b, c⟩)
  · exact Or.inr (Or.inr (Or.inl ⟨k, i, a, ⟨i0, b, (h i0 (by omega)).mp c⟩, d⟩))
  · exact Or.inr (Or.inr (Or.inr ⟨k, ⟨i, a, (h i a).mp b, c⟩, d⟩))
/-- words of parts that are done stay -/
theorem sc_det {P : pd_P} {v : Nat → Nat} {n p : Nat} {W V : Nat → Nat → Prop} (ho : sc_ok P) (hn : n < 60) (h1 : sc_J P v n p W) (h2 : sc_J P v n (p + 1) V) : ∀ s, s ≤ p → s < pd_m P → ∀ u, u < 64 → (W s u ↔ V s u) := by
  intro s
  induction s using Nat.strongRecOn with
  | ind s ih =>
    intro hs hm u hu
    rw [h1 s hm u hu, h2 s hm u hu]
    constructor
    · rintro (z | ⟨r, r1, r2, r3⟩)
      · exact Or.inl z
      · have hr := (ho.1 r s r1 r2).1
        rw [if_pos (by omega)] at r3
        exact Or.inr ⟨r, r1, r2, by rw [if_pos (by omega)]; exact sc_c_c (fun i hi => ih r hr (by omega) r1 i (by omega)) r3⟩
    · rintro (z | ⟨r, r1, r2, r3⟩)
      · exact Or.inl z
      · have hr := (ho.1 r s r1 r2).1
        rw [if_pos (by omega)] at r3
        exact Or.inr ⟨r, r1, r2, by rw [if_pos (by omega)]; exact sc_c_c (fun i hi => (ih r hr (by omega) r1 i (by omega)).symm) r3⟩
theorem sc_det2 {P : pd_P} {v : Nat → Nat} {n : Nat} {W V : Nat → Nat → Prop} (ho : sc_ok P) (hn : n < 60) (h1 : sc_J P v n 0 W) (h2 : sc_J P v (n + 1) 0 V) : ∀ s, s < pd_m P → ∀ u, u < n → (W s u ↔ V s u) := by
  intro s
  induction s using Nat.strongRecOn with
  | ind s ih =>
    intro hm u hu
    rw [h1 s hm u (by omega), h2 s hm u (by omega)]
    constructor
    · rintro (z | ⟨r, r1, r2, r3⟩)
      · exact Or.inl z
      · have hr := (ho.1 r s r1 r2).1
        rw [if_neg (by omega)] at r3
        refine Or.inr ⟨r, r1, r2, ?_⟩
        rw [if_neg (by omega)]
        exact sc_c_s.mpr (Or.inl (sc_c_c (fun i hi => ih r hr r1 i hi) r3))
    · rintro (z | ⟨r, r1, r2, r3⟩)
      · exact Or.inl z
      · have hr := (ho.1 r s r1 r2).1
        rw [if_neg (by omega)] at r3
        refine Or.inr ⟨r, r1, r2, ?_⟩
        rw [if_neg (by omega)]
        rcases sc_c_s.mp r3 with y | y
        · exact sc_c_c (fun i hi => (ih r hr r1 i hi).symm) y
        · have := sc_add_le y
          omega
def sc_h176 (C B b n a : Nat) (P : pd_P) (v : Nat → Nat) (T : wv_T) (N : Nat) (I : Nat → Nat → Int32) (L : Nat → Nat → Int64) (R : Nat → Nat → Option Nat) : Nat → Option (Nat → wv_P) := fun pc =>
  if pc = 6 then some (fun mm lv st T1 N1 I1 L1 R1 nc ns => ∃ (p : Nat) (f : Bool), lv = [some (.ref C), some (.ref B), some (.int (Int32.ofNat b)), some (.int (Int32.ofNat n)), some (.int (Int32.ofNat a)), some (.int (wb_i f)), some (.int (Int32.ofNat p)), none, none, none, none, none] ∧ st = [] ∧ T1 = T ∧ N1 = N ∧ I1 = I ∧ R1 = R ∧ nc = 0 ∧ ns = 0 ∧ p ≤ pd_m P ∧ mm = 2 * (1000 - p) ∧ sc_M P v (I (C + 1)) B b n p L1 ∧ sc_FB B b (pp_sl (I (C + 1)) (pd_m P) (pd_m P)) L L1 ∧ (f = true ↔ ∃ s, s < p ∧ sc_f P v (sc_W L1 B b) n s))
  else if pc = 32 then some (fun mm lv st T1 N1 I1 L1 R1 nc ns => ∃ (p : Nat) (f : Bool), lv = [some (.ref C), some (.ref B), some (.int (Int32.ofNat b)), some (.int (Int32.ofNat n)), some (.int (Int32.ofNat a)), some (.int (wb_i f)), some (.int (Int32.ofNat p)), none, none, none, none, none] ∧ st = [] ∧ T1 = T ∧ N1 = N ∧ I1 = I ∧ R1 = R ∧ nc = 0 ∧ ns = 0 ∧ p < pd_m P ∧ mm = 2 * (1000 - p) - 1 ∧ sc_M P v (I (C + 1)) B b n (p + 1) L1 ∧ sc_FB B b (pp_sl (I (C + 1)) (pd_m P) (pd_m P)) L L1 ∧ (f = true ↔ ∃ s, s < p + 1 ∧ sc_f P v (sc_W L1 B b) n s))
  else none
theorem sc_M_n {P : pd_P} {v : Nat → Nat} {k : Nat → Int32} {B b n : Nat} {L : Nat → Nat → Int64} (h : sc_M P v k B b n (pd_m P) L) : sc_M P v k B b (n + 1) 0 L := by
  refine ⟨sc_next h.1, fun s hs => ?_⟩
  have g := h.2 s hs
  rw [if_pos hs] at g
  rw [if_neg (by omega)]
  exact g
def sc_c176 : wv_c1 := fun as T N I L R q => ∃ (C : Nat) (P : pd_P) (S : rn_N) (sq : List Nat) (B b len n a : Nat) (v : Nat → Nat), as = [.ref C, .ref B, .int (Int32.ofNat b), .int (Int32.ofNat n), .int (Int32.ofNat a)] ∧ sc_E T I L R C P S sq B b len ∧ sc_M P v (I (C + 1)) B b n 0 L ∧ n < 24 ∧ v n = a ∧ a < 64 ∧ ∀ L1 f, sc_M P v (I (C + 1)) B b (n + 1) 0 L1 → (f = true ↔ ∃ s, s < pd_m P ∧ sc_f P v (sc_W L1 B b) n s) → sc_FB B b (pp_sl (I (C + 1)) (pd_m P) (pd_m P)) L L1 → q (.inl (some (.int (wb_i f)))) T N I L1 R 0 0
set_option maxRecDepth 100000 in
theorem wM_176 : ∃ cb ci np, pt_mt 176 = some (8, cb, 7, false, some .boolean, ci, np) := ⟨_, _, _, rfl⟩
set_option maxRecDepth 100000 in
set_option maxHeartbeats 4000000 in
theorem sc_stepM {sc : pt_Sc} {d : Nat} : wv_C wm_fx sc (d + 1 + 1 + 1 + 1) 176 sc_c176 := by
  rintro as T N I L R q ⟨C, P, S, sq, B, b, len, n, a, v, rfl, hE, hM, hn, hva, ha, h⟩ w0 HR
  obtain ⟨cb, ci, np, hm⟩ := wM_176
  have d0 := hE.1.1.1
  have h8 := hE.2.1.1
  have hm155 := hE.2.1.2.1
  have ho := hE.2.2.2.2.2.1
  have hc177 : wv_C wm_fx sc (d + 1 + 1 + 1) 177 sc_c177 := wv_C_deep (by omega) (sc_stepPart (d := d))
  refine wv_meth (hh := none) rfl (sp := wv_sp [(177, sc_c177)]) (hd := sc_h176 C B b n a P v T N I L R) (n := 300) (n1 := 300) hm zc_176 rfl (wv_sp_ok (fun q hq => by rw [List.mem_singleton.mp hq]; exact hc177)) ?_ ?_ HR
  · exact ⟨_, 0, false, rfl, rfl, rfl, rfl, rfl, rfl, rfl, rfl, Nat.zero_le _, rfl, hM, sc_FB_r, ⟨fun z => (by cases z), fun ⟨s, z, _⟩ => by omega⟩⟩
  · intro pc P hP m lv st T1 N1 I1 L1 R1 nc ns hh
    unfold sc_h176 at hP
    by_cases p6 : pc = 6
    · rw [if_pos p6] at hP
      cases hP
      subst p6
      obtain ⟨p, f, rfl, rfl, rfl, rfl, rfl, rfl, rfl, rfl, hp, rfl, hM1, hF, hf⟩ := hh
      have ep := wi_on (n := p) (by omega)
      have em := wi_on (n := pd_m P) (by omega)
      refine ⟨d0, fun w => ?_, fun w => ?_⟩
      · rw [h8, wi_le, em, ep] at w
        have e : p = pd_m P := by omega
        subst e
        have hq := h L1 f (sc_M_n hM1) hf hF
        cases f with
        | true => exact ⟨⟨rfl, rfl⟩, hq⟩
        | false => exact ⟨⟨rfl, rfl⟩, hq⟩
      rw [h8, wi_le, em, ep] at w
      have hE1 := sc_E_L hE (L1 := L1) (fun c j z => hF c j (fun y => z y.1))
      refine ⟨d0, C, P, S, sq, B, b, len, n, p, a, v, rfl, ⟨hE1, hM1, hn, by omega, hva, ha⟩, fun L2 f2 m1 m2 m3 => ?_⟩
      have det := sc_det ho (by omega) hM1.1 m1.1
      have key : (∃ s, s < p + 1 ∧ sc_f P v (sc_W L2 B b) n s) ↔ f = true ∨ f2 = true := by
        rw [hf, m2]
        constructor
        · rintro ⟨s, s1, s2⟩
          have s3 := sc_f_c (fun i hi => (det s (by omega) (by omega) i (by omega)).symm) s2
          by_cases e : s = p
          · subst e
            exact Or.inr s3
          · exact Or.inl ⟨s, by omega, s3⟩
        · rintro (⟨s, s1, s2⟩ | s2)
          · exact ⟨s, by omega, sc_f_c (fun i hi => det s (by omega) (by omega) i (by omega)) s2⟩
          · exact ⟨p, by omega, sc_f_c (fun i hi => det p (by omega) (by omega) i (by omega)) s2⟩
      refine ⟨fun w2 => ?_, fun w2 => ?_⟩
      · have w2 := wb_i_2.mp (fun z => z w2)
        exact ⟨2 * (1000 - p) - 1, by omega, p, f, rfl, rfl, rfl, rfl, rfl, rfl, rfl, rfl, by omega, rfl, m1, sc_FB_t hF m3, ⟨fun z => key.mpr (Or.inl z), fun z => (key.mp z).elim id (fun y => by rw [w2] at y; cases y)⟩⟩
      · have w2 := wb_i_1.mp w2
        exact ⟨2 * (1000 - p) - 1, by omega, p, true, rfl, rfl, rfl, rfl, rfl, rfl, rfl, rfl, by omega, rfl, m1, sc_FB_t hF m3, ⟨fun _ => key.mpr (Or.inr w2), fun _ => rfl⟩⟩
    rw [if_neg p6] at hP
    by_cases p32 : pc = 32
    · rw [if_pos p32] at hP
      cases hP
      subst p32
      obtain ⟨p, f, rfl, rfl, rfl, rfl, rfl, rfl, rfl, rfl, hp, rfl, hM1, hF, hf⟩ := hh
      exact ⟨2 * (1000 - (p + 1)), by omega, p + 1, f, by rw [← wq_4s p]; rfl, rfl, rfl, rfl, rfl, rfl, rfl, rfl, by omega, rfl, hM1, hF, hf⟩
    rw [if_neg p32] at hP
    cases hP
def sc_h175 (C B b e : Nat) (T : wv_T) (N : Nat) (I : Nat → Nat → Int32) (L : Nat → Nat → Int64) (R : Nat → Nat → Option Nat) : Nat → Option (Nat → wv_P) := fun pc =>
  if pc = 2 then some (fun mm lv st T1 N1 I1 L1 R1 nc ns => ∃ (k : Nat), lv = [some (.ref C), some (.ref B), some (.int (Int32.ofNat b)), some (.int (Int32.ofNat k)), none, none, none] ∧ st = [] ∧ T1 = T ∧ N1 = N ∧ I1 = I ∧ R1 = R ∧ nc = 0 ∧ ns = 0 ∧ k ≤ e ∧ mm = e - k ∧ sc_FB B b e L L1 ∧ ∀ j, j < k → L1 B (b + j) = Int64.ofNat 0)
  else none
theorem sc_M_0 {P : pd_P} {v : Nat → Nat} {k : Nat → Int32} {B b : Nat} {L : Nat → Nat → Int64} (h0 : L B b = Int64.ofNat 1) (h1 : ∀ j, 0 < j → j < pp_sl k (pd_m P) (pd_m P) → L B (b + j) = Int64.ofNat 0) : sc_M P v k B b 0 0 L := by
  have s0 := sc_sl (k := k) (m := pd_m P) (i := pd_m P)
  refine ⟨sc_0 (fun q hq u hu => ?_), fun s hs => ?_⟩
  · show nb (L B (b + q)) u = true ↔ _
    by_cases e : q = 0
    · subst e
      rw [Nat.add_zero, h0, nb_1, decide_eq_true_iff]
      exact ⟨fun z => ⟨rfl, z⟩, fun z => z.2⟩
    · rw [h1 q (by omega) (by omega)]
      have e0 : nb (Int64.ofNat 0) u = false := nb_0 _
      rw [e0]
      exact ⟨fun z => (by cases z), fun z => (e z.1).elim⟩
  · rw [if_neg (by omega), show b + pd_m P + s = b + (pd_m P + s) by omega, h1 (pd_m P + s) (by omega) (by omega)]
    have e0 : ∀ u, nb (Int64.ofNat 0) u = false := fun u => nb_0 _
    refine ⟨fun _ t ht => ?_, fun _ t ht => ?_, fun _ => Or.inr ⟨rfl, fun ⟨i, z, _⟩ => by omega⟩, fun _ => ⟨0, Nat.le_refl _, rfl, [], rfl, List.Pairwise.nil, fun i => ⟨fun z => absurd z (by simp), fun z => by omega⟩, fun j i z => absurd z (by simp)⟩⟩
    · rw [e0]
      exact ⟨fun z => (by cases z), fun ⟨i, z, _⟩ => by omega⟩
    · rw [e0]
      exact ⟨fun z => (by cases z), fun ⟨i, z, _⟩ => by omega⟩
def sc_c175 : wv_c1 := fun as T N I L R q => ∃ (C B b len e : Nat), as = [.ref C, .ref B, .int (Int32.ofNat b)] ∧ T C = some (.inl 7) ∧ I C 10 = Int32.ofNat e ∧ T B = some (.inr (1, len)) ∧ b + e ≤ len ∧ 0 < e ∧ len < 100000 ∧ B < 1099511627776 ∧ ∀ L1, L1 B b = Int64.ofNat 1 → (∀ j, 0 < j → j < e → L1 B (b + j) = Int64.ofNat 0) → sc_FB B b e L L1 → q (.inl none) T N I L1 R 0 0
set_option maxRecDepth 100000 in
theorem wM_175 : ∃ cb ci np, pt_mt 175 = some (8, cb, 4, false, none, ci, np) := ⟨_, _, _, rfl⟩
set_option maxRecDepth 100000 in
set_option maxHeartbeats 4000000 in
theorem sc_startRow {sc : pt_Sc} {d : Nat} : wv_C wm_fx sc (d + 1) 175 sc_c175 := by
  rintro as T N I L R q ⟨C, B, b, len, e, rfl, d0, h10, tB, hlen, he, hlen2, hB40, h⟩ w0 HR
  obtain ⟨cb, ci, np, hm⟩ := wM_175
  refine wv_meth (hh := none) rfl (sp := fun _ _ _ _ _ _ _ _ => False) (hd := sc_h175 C B b e T N I L R) (n := 300) (n1 := 300) hm zc_175 rfl (fun k as T N I L R q h => by cases h) ?_ ?_ HR
  · exact ⟨_, 0, rfl, rfl, rfl, rfl, rfl, rfl, rfl, rfl, Nat.zero_le _, rfl, sc_FB_r, fun j hj => by omega⟩
  · intro pc P hP m lv st T1 N1 I1 L1 R1 nc ns hh
    unfold sc_h175 at hP
    split at hP
    · cases hP
      rename_i hpc
      subst hpc
      obtain ⟨k, rfl, rfl, rfl, rfl, rfl, rfl, rfl, rfl, hk, rfl, hF, hZ⟩ := hh
      have ek := wi_on (n := k) (by omega)
      have ee := wi_on (n := e) (by omega)
      have e1 : Int32.ofNat b + Int32.ofNat k = Int32.ofNat (b + k) := wq_ad (by omega)
      have n1 := wi_onn (n := b + k) (by omega)
      have nb1 := wi_onn (n := b) (by omega)
      refine ⟨d0, fun w => ?_, fun w => ?_⟩
      · rw [h10, wi_le, ee, ek] at w
        refine ⟨_, tB, pp_b (c := len) (by omega) (by omega), hB40, ?_⟩
        rw [nb1]
        refine h _ (wv_u_at _ _ _ _) (fun j j1 j2 => ?_) (sc_FB_u hF (Nat.le_refl _) (by omega))
        rw [wv_u_no _ _ (by omega)]
        exact hZ j (by omega)
      rw [h10, wi_le, ee, ek] at w
      refine ⟨_, tB, by rw [e1]; exact pp_b (c := len) (by omega) (by omega), hB40, ?_⟩
      rw [e1, n1]
      refine ⟨e - (k + 1), by omega, k + 1, by rw [← wq_4s k]; rfl, rfl, rfl, rfl, rfl, rfl, rfl, rfl, by omega, rfl, sc_FB_u hF (by omega) (by omega), fun j hj => ?_⟩
      by_cases c : j = k
      · subst c
        rw [wv_u_at]
        rfl
      · rw [wv_u_no _ _ (by omega)]
        exact hZ j (by omega)
    · cases hP
