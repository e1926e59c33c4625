/-! ===== the class: number ===== -/
theorem bu_D_u {T : wv_T} {I : Nat → Nat → Int32} {R : Nat → Nat → Option Nat} {B V cap C : Nat} {z : List Nat} {x : Int32} (h : bu_D T I R B V cap z) (hC : T C = some (.inl 10)) : bu_D T (wv_u I C 7 x) R B V cap z := by
  obtain ⟨⟨h1, h2, h3, h4, h5, h6, h7, h8⟩, h9, h10, h11, h12⟩ := h
  have cB : ¬ C = B := fun e => by
    rw [e, h1] at hC
    cases hC
  have cV : ¬ C = V := fun e => by
    rw [e, h4] at hC
    cases hC
  exact ⟨⟨h1, h2, (wv_u_no _ _ (by omega)).trans h3, h4, h5, h6, h7, h8⟩, (wv_u_no _ _ (by omega)).trans h9, h10, fun k hk => by rw [wv_u_no _ _ (by omega)]; exact h11 k hk, fun k c hk => by rw [wv_u_no _ _ (by omega)]; exact h12 k c hk⟩
theorem tw_c_s {z : List Nat} {k c : Nat} (h : z[k]? = some c) : tw_c z k = Int32.ofNat c := by
  unfold tw_c
  rw [h]
theorem tw_c_n {z : List Nat} {k : Nat} (h : z.length ≤ k) : tw_c z k = Int32.ofInt (-1) := by
  unfold tw_c
  rw [List.getElem?_eq_none h]
/-- a design with its builder -/
def wr_D (C B V cap : Nat) (z : List Nat) (a b g : Nat) (nx : Nat → Nat) (fi : Nat → Bool) (sg on tw : Nat → Nat) (T : wv_T) (N : Nat) (I : Nat → Nat → Int32) (R : Nat → Nat → Option Nat) : Prop := wr_P C B V T N I R ∧ tw_V a b g nx fi sg on tw ∧ tw_N C a b g nx fi sg on tw I ∧ wt_s T I R 1099511627796 1099511627797 [97, 97, 103] ∧ bu_D T I R B V cap z ∧ (¬ I C 7 = 0 → z = tw_T a b g nx fi sg on tw)
def wr_q (C B V cap : Nat) (a b g : Nat) (nx : Nat → Nat) (fi : Nat → Bool) (sg on tw : Nat → Nat) (T : wv_T) (N : Nat) (I : Nat → Nat → Int32) (L : Nat → Nat → Int64) (R : Nat → Nat → Option Nat) (r : Int32) (q : (Nat → Nat → Int32) → wv_T → Nat → (Nat → Nat → Int64) → (Nat → Nat → Option Nat) → Nat → Nat → Prop) : Prop := (¬ I C 7 = 0 → q I T N L R 0 0) ∧ (I C 7 = 0 → ∀ V1 cap1 T1 N1 I1 L1 R1 n1 s1, bu_D T1 I1 R1 B V1 cap1 (tw_T a b g nx fi sg on tw) → bu_G B V cap T N I L R V1 cap1 T1 N1 I1 L1 R1 n1 s1 → q (wv_u I1 C 7 1) T1 N1 L1 R1 n1 s1)
def wr_h242 (C B V cap k : Nat) (a b g : Nat) (nx : Nat → Nat) (fi : Nat → Bool) (sg on tw : Nat → Nat) (q : wv_Q) (T : wv_T) (N : Nat) (I : Nat → Nat → Int32) (L : Nat → Nat → Int64) (R : Nat → Nat → Option Nat) : Nat → Option (Nat → wv_P) := fun pc =>
  if pc = 16 then some (fun mm lv st T1 N1 I1 L1 R1 nc ns => ∃ V1 cap1, lv = [some (.ref C), some (.int (Int32.ofNat k)), none, none] ∧ st = [] ∧ T1 C = some (.inl 10) ∧ R1 C 6 = some B ∧ bu_D T1 I1 R1 B V1 cap1 (tw_T a b g nx fi sg on tw) ∧ q (.inl (some (.int (tw_c (tw_T a b g nx fi sg on tw) k)))) T1 N1 I1 L1 R1 nc ns ∧ mm = 1)
  else none
def wr_c242 : wv_c1 := fun as T N I L R q => ∃ (C B V cap k : Nat) (z : List Nat) (a b g : Nat) (nx : Nat → Nat) (fi : Nat → Bool) (sg on tw : Nat → Nat), as = [.ref C, .int (Int32.ofNat k)] ∧ k < 2147483648 ∧ wr_D C B V cap z a b g nx fi sg on tw T N I R ∧ wr_q C B V cap a b g nx fi sg on tw T N I L R (tw_c (tw_T a b g nx fi sg on tw) k) (fun I1 T1 N1 L1 R1 n1 s1 => q (.inl (some (.int (tw_c (tw_T a b g nx fi sg on tw) k)))) T1 N1 I1 L1 R1 n1 s1)
set_option maxRecDepth 100000 in
theorem wM_242 : ∃ cb ci np, pt_mt 242 = some (11, cb, 2, false, some .int, ci, np) := ⟨_, _, _, rfl⟩
set_option maxRecDepth 100000 in
set_option maxHeartbeats 4000000 in
theorem wr_writtenSign {sc : pt_Sc} {d : Nat} (hf : wt_fv sc) : wv_C wm_fx sc (d + 1 + 1 + 1 + 1 + 1 + 1 + 1 + 1) 242 wr_c242 := by
  rintro as T N I L R q ⟨C, B, V, cap, k, z, a, b, g, nx, fi, sg, on, tw, rfl, hk, ⟨hP, hV, hN0, hS, hD, hz⟩, h1, h2⟩ w0 HR
  obtain ⟨cb, ci, np, hm⟩ := wM_242
  have hc243 : wv_C wm_fx sc (d + 1 + 1 + 1 + 1 + 1 + 1 + 1) 243 wr_c243 := wv_C_deep (by omega) (wr_write (d := d))
  have hc280 : wv_C wm_fx sc (d + 1 + 1 + 1 + 1 + 1 + 1 + 1) 280 bu_c281 := wv_C_deep (by omega) (bu_length (d := d))
  have hc303 : wv_C wm_fx sc (d + 1 + 1 + 1 + 1 + 1 + 1 + 1) 303 bu_c304 := wv_C_deep (by omega) (bu_charAt2 hf (d := d))
  refine wv_meth (hh := none) rfl (sp := wv_sp [(243, wr_c243), (280, bu_c281), (303, bu_c304)]) (hd := wr_h242 C B V cap k a b g nx fi sg on tw q T N I L R) (n := 300) (n1 := 300) hm zc_242 rfl (wv_sp_ok (fun q hq => by
    rcases List.mem_cons.mp hq with h | h
    · rw [h]; exact hc243
    rcases List.mem_cons.mp h with h | h
    · rw [h]; exact hc280
    rw [List.mem_singleton.mp h]; exact hc303)) ?_ ?_ HR
  · have hC := hP.1.1
    have hC2 : C < 1099511627776 := by
      have := hP.2.2.1
      have := hP.2.2.2.1
      omega
    refine ⟨hC, fun w1 => ?_, fun w1 => ?_⟩
    · have w1 : ¬ I C 7 = 0 := w1
      have e := hz w1
      subst e
      exact ⟨1, V, cap, rfl, rfl, hC, hP.2.1, hD, h1 w1, rfl⟩
    · have w1 : ¬ ¬ I C 7 = 0 := w1
      have w2 := Classical.not_not.mp w1
      refine ⟨hC, C, B, V, cap, z, a, b, g, nx, fi, sg, on, tw, rfl, hP, hV, hN0, hS, hD, fun V1 cap1 T1 N1 I1 L1 R1 n1 s1 D1 G1 => ?_⟩
      have F1 := wr_now hP hN0 D1 G1
      refine ⟨⟨F1.1.1, hC2⟩, ⟨rfl, rfl⟩, ?_⟩
      refine ⟨1, V1, cap1, rfl, rfl, F1.1.1, F1.2.1, bu_D_u D1 F1.1.1, ?_, rfl⟩
      have hq := h2 w2 V1 cap1 T1 N1 I1 L1 R1 n1 s1 D1 G1
      rw [← Nat.zero_add n1, ← Nat.zero_add s1] at hq
      exact hq
  · intro pc P hP2 m lv st T1 N1 I1 L1 R1 nc ns hh
    unfold wr_h242 at hP2
    by_cases p16 : pc = 16
    · rw [if_pos p16] at hP2
      cases hP2
      subst p16
      obtain ⟨V1, cap1, rfl, rfl, tC, r6, D1, hq, rfl⟩ := hh
      have hl : (tw_T a b g nx fi sg on tw).length ≤ 839 := by
        obtain ⟨va, vb, vg, _⟩ := hV
        exact tw_l4 (i := g) va vb vg
      have ek := wi_on (n := k) (by omega)
      have el := wi_on (n := (tw_T a b g nx fi sg on tw).length) (by omega)
      refine ⟨tC, B, r6, D1.1.1, B, rfl, D1.1.1, ?_⟩
      refine ⟨fun w1 => ?_, fun w1 => ?_⟩
      · have w1 : I1 B 3 ≤ Int32.ofNat k := w1
        rw [D1.2.1, wi_le, ek, el] at w1
        rw [tw_c_n (by omega)] at hq
        exact hq
      · have w1 : ¬ I1 B 3 ≤ Int32.ofNat k := w1
        rw [D1.2.1, wi_le, ek, el] at w1
        have hkl : k < (tw_T a b g nx fi sg on tw).length := by omega
        have hg := List.getElem?_eq_getElem hkl
        rw [tw_c_s hg] at hq
        refine ⟨tC, B, r6, D1.1.1, B, V1, cap1, k, _, _, rfl, D1, hg, ?_⟩
        exact hq
    rw [if_neg p16] at hP2
    cases hP2
def wr_c241 : wv_c1 := fun as T N I L R q => ∃ (ki : Int32) (C B V cap : Nat) (z : List Nat) (a b g : Nat) (nx : Nat → Nat) (fi : Nat → Bool) (sg on tw : Nat → Nat), as = [.ref 0, .int ki] ∧ R 0 14 = some C ∧ wr_D C B V cap z a b g nx fi sg on tw T N I R ∧ (ki < 0 → q (.inr 2) T N I L R 1 6) ∧ ∀ k, k < 2147483648 → ki = Int32.ofNat k → wr_q C B V cap a b g nx fi sg on tw T N I L R (tw_c (tw_T a b g nx fi sg on tw) k) (fun I1 T1 N1 L1 R1 n1 s1 => q (.inl (some (.int (tw_c (tw_T a b g nx fi sg on tw) k)))) T1 N1 I1 L1 R1 n1 s1)
set_option maxRecDepth 100000 in
theorem wM_241 : ∃ cb ci np, pt_mt 241 = some (1, cb, 2, false, some .int, ci, np) := ⟨_, _, _, rfl⟩
set_option maxRecDepth 100000 in
set_option maxHeartbeats 4000000 in
theorem wr_number {sc : pt_Sc} {d : Nat} (hf : wt_fv sc) : wv_C wm_fx sc (d + 1 + 1 + 1 + 1 + 1 + 1 + 1 + 1 + 1) 241 wr_c241 := by
  rintro as T N I L R q ⟨ki, C, B, V, cap, z, a, b, g, nx, fi, sg, on, tw, rfl, hR, hW, hneg, h⟩ w0 HR
  obtain ⟨cb, ci, np, hm⟩ := wM_241
  have hc242 : wv_C wm_fx sc (d + 1 + 1 + 1 + 1 + 1 + 1 + 1 + 1) 242 wr_c242 := wv_C_deep (by omega) (wr_writtenSign hf (d := d))
  refine wv_meth (hh := none) rfl (sp := wv_sp [(242, wr_c242)]) (hd := fun _ => none) (n := 0) (n1 := 300) hm zc_241 rfl (wv_sp_ok (fun q hq => by rw [List.mem_singleton.mp hq]; exact hc242)) ?_ (fun pc P h => by cases h) HR
  refine ⟨fun w1 => ?_, fun w1 => hneg (Int32.not_le.mp w1)⟩
  have w1 : 0 ≤ ki := w1
  rw [wi_le, wi_0] at w1
  have hk : ki.toInt.toNat < 2147483648 := by
    have := Int32.toInt_lt ki
    omega
  have ek : ki = Int32.ofNat ki.toInt.toNat := wi_eq.mpr (by rw [wi_on hk]; omega)
  obtain ⟨o1, o2⟩ := h _ hk ek
  refine ⟨C, hR, hW.1.1.1, C, B, V, cap, ki.toInt.toNat, z, a, b, g, nx, fi, sg, on, tw, (by rw [← ek]; rfl), hk, hW, fun y => o1 y, fun y V1 cap1 T1 N1 I1 L1 R1 n1 s1 D1 G1 => ?_⟩
  have hq := o2 y V1 cap1 T1 N1 I1 L1 R1 n1 s1 D1 G1
  rw [← Nat.zero_add n1, ← Nat.zero_add s1] at hq
  exact hq
def wr_c240 : wv_c1 := fun as T N I L R q => ∃ (ki : Int32) (C B V cap : Nat) (z : List Nat) (a b g : Nat) (nx : Nat → Nat) (fi : Nat → Bool) (sg on tw : Nat → Nat), as = [.ref 0, .int ki, .ref 536] ∧ T 536 = some (.inr (1, 1)) ∧ R 0 14 = some C ∧ wr_D C B V cap z a b g nx fi sg on tw T N I R ∧ (ki < 0 → q (.inl (some (.int 1))) T N I L R 1 6) ∧ ∀ k, k < 2147483648 → ki = Int32.ofNat k → wr_q C B V cap a b g nx fi sg on tw T N I L R (tw_c (tw_T a b g nx fi sg on tw) k) (fun I1 T1 N1 L1 R1 n1 s1 => q (.inl (some (.int 0))) T1 N1 I1 (wv_u L1 536 0 (tw_c (tw_T a b g nx fi sg on tw) k).toInt64) R1 n1 s1)
set_option maxRecDepth 100000 in
theorem wM_240 : ∃ cb ci np, pt_mt 240 = some (0, cb, 4, false, some .int, ci, np) := ⟨_, _, _, rfl⟩
set_option maxRecDepth 100000 in
theorem wl_240 : wl_ok 240 4 [(2, 1)] = true := by decide +kernel
set_option maxRecDepth 100000 in
set_option maxHeartbeats 4000000 in
theorem wl_number {sc : pt_Sc} {d : Nat} (hf : wt_fv sc) : wv_C wm_fx sc (d + 1 + 1 + 1 + 1 + 1 + 1 + 1 + 1 + 1 + 1) 240 wr_c240 := by
  rintro as T N I L R q ⟨ki, C, B, V, cap, z, a, b, g, nx, fi, sg, on, tw, rfl, h537, hR, hW, hneg, h⟩ w0 HR
  obtain ⟨cb, ci, np, hm⟩ := wM_240
  have hc241 : wv_C wm_fx sc (d + 1 + 1 + 1 + 1 + 1 + 1 + 1 + 1 + 1) 241 wr_c241 := wv_C_deep (by omega) (wr_number hf (d := d))
  refine wv_meth (hh := some (wl_f 4 [(2, 1)])) rfl (sp := wv_sp [(241, wr_c241)]) (hd := fun _ => none) (n := 0) (n1 := 300) hm zc_240 (wl_HH hm wl_240) (wv_sp_ok (fun q hq => by rw [List.mem_singleton.mp hq]; exact hc241)) ?_ (fun pc P h => by cases h) HR
  refine ⟨ki, C, B, V, cap, z, a, b, g, nx, fi, sg, on, tw, rfl, hR, hW, fun y => ⟨Or.inl rfl, hneg y⟩, fun k hk ek => ?_⟩
  obtain ⟨o1, o2⟩ := h k hk ek
  refine ⟨fun y => ⟨_, h537, ⟨by decide, by decide⟩, by decide, o1 y⟩, fun y V1 cap1 T1 N1 I1 L1 R1 n1 s1 D1 G1 => ?_⟩
  have hq := o2 y V1 cap1 T1 N1 I1 L1 R1 n1 s1 D1 G1
  rw [← Nat.zero_add n1, ← Nat.zero_add s1] at hq
  exact ⟨_, G1.1 _ _ h537, ⟨by decide, by decide⟩, by decide, hq⟩
