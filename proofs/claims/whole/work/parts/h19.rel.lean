/-! ===== the class while it reads a property ===== -/
/-- the world around a reading: what has been made, and what is left alone -/
def cg_T (C : Nat) (T0 : wv_T) (N0 : Nat) (R0 : Nat → Nat → Option Nat) (T : wv_T) (N : Nat) (R : Nat → Nat → Option Nat) (nc ns : Nat) : Prop := wm_T T ∧ wm_A T ∧ pp_D T R C ∧ pq_O T N R ∧ N = N0 + nc ∧ ns ≤ 2624 * nc ∧ (∀ c, ¬ T0 c = none → T c = T0 c) ∧ (∀ c j, ¬ T0 c = none → ¬ (C + 9 ≤ c ∧ c < C + 76 ∧ j = 0) → R c j = R0 c j) ∧ ∀ k, k < 67 → ∀ B, R (C + 9 + k) 0 = some B → R0 (C + 9 + k) 0 = some B ∨ T0 B = none
def cg_I (C : Nat) (T0 : wv_T) (I0 : Nat → Nat → Int32) (L0 : Nat → Nat → Int64) (R0 : Nat → Nat → Option Nat) (T : wv_T) (I : Nat → Nat → Int32) (L : Nat → Nat → Int64) : Prop := (∀ c j, ¬ T0 c = none → ¬ (c = 1 ∧ (j = 8 ∨ j = 9)) → ¬ (9 ≤ c ∧ c ≤ 21) → ¬ (C ≤ c ∧ c < C + 96) → I c j = I0 c j) ∧ (∀ c j, ¬ T0 c = none → ¬ (9 ≤ c ∧ c ≤ 21) → ¬ (C ≤ c ∧ c < C + 96) → (∀ k, k < 67 → ¬ R0 (C + 9 + k) 0 = some c) → L c j = L0 c j) ∧ wt_LW T L ∧ (∃ g, I 9 11 = Int32.ofNat g ∧ g < 64) ∧ ∀ i, i < 4 → I (C + 76 + 5 * i) 8 = 0
/-- a property wanted or ended -/
def cr_A (ts : List wt_t) (n C : Nat) (fin : ap_S) (T : wv_T) (I : Nat → Nat → Int32) (L : Nat → Nat → Int64) (R : Nat → Nat → Option Nat) (k nc : Nat) (S : rn_N) (fr : List ap_F) (p : Option Nat) (o : Nat) (s : wt_q) (sq : List Nat) (P : pd_P) (ps : List (Nat × Bool)) (f : Nat) : Prop := s.2 = none ∧ ap_run ts n f (S, fr, p, o, s, sq, false) = fin ∧ 3 * (402 - s.1) + fr.length < f ∧ ap_I ts S fr p o s sq ∧ cR P ps S fr p ∧ pq_M I L C P (pd_m P) ∧ pq_P I ps ∧ pq_S T I L R C S sq P ∧ wt_K I L ts n s.1 s.2 ∧ pj_J I [] ∧ I 9 7 = Int32.ofNat o ∧ I 9 8 = (if p.isSome = true then Int32.ofInt 1 else Int32.ofInt 0) ∧ 3 * pd_m P ≤ wl ts s.1 + pq_w ps + (if p.isSome = true then 2 else 0) ∧ 6 * sq.length ≤ wl ts s.1 + (if p.isSome = true then 3 else 0) ∧ k ≤ s.1 ∧ nc ≤ sq.length
/-- a fault -/
def cr_F (ts : List wt_t) (n C : Nat) (fin : ap_S) (I : Nat → Nat → Int32) (L : Nat → Nat → Int64) (k nc : Nat) : Prop := ∃ (s : wt_q) (m : Nat), ¬ s.2 = none ∧ wt_K I L ts n s.1 s.2 ∧ (ap_t fin).2 = s.2 ∧ I C 8 = Int32.ofNat m ∧ m ≤ 155 ∧ k ≤ 402 ∧ 3 * nc ≤ n + 1
/-- done -/
def cr_D (ts : List wt_t) (n C : Nat) (fin : ap_S) (T : wv_T) (I : Nat → Nat → Int32) (L : Nat → Nat → Int64) (R : Nat → Nat → Option Nat) (k nc : Nat) : Prop := ∃ (S : rn_N) (x o : Nat) (s : wt_q) (sq : List Nat) (P : pd_P), fin = (S, [], some x, o, s, sq, true) ∧ s.2 = none ∧ wt_K I L ts n s.1 s.2 ∧ I 9 8 = Int32.ofInt 4 ∧ cR P [] S [] (some x) ∧ ap_I ts S [] (some x) o s sq ∧ pq_M I L C P (pd_m P) ∧ pq_S T I L R C S sq P ∧ k ≤ 402 ∧ 3 * nc ≤ n + 1 ∧ sq.length ≤ 67
/-- a sequence under way: the part that waits for it has kind k0; tokens stand at s0 where its brace is -/
def cr_I (ts : List wt_t) (n C : Nat) (fin : ap_S) (T : wv_T) (I : Nat → Nat → Int32) (L : Nat → Nat → Int64) (R : Nat → Nat → Option Nat) (k nc : Nat) (S0 : rn_N) (fr : List ap_F) (o0 : Nat) (s00 s0 : wt_q) (sq : List Nat) (P : pd_P) (ps : List (Nat × Bool)) (f k0 : Nat) (S : rn_N) (js xs : List Nat) (o : Nat) (s : wt_q) (it : Bool) (f2 g : Nat) (fl : Bool) : Prop := (s00.2 = none ∧ ap_run ts n f (S0, fr, none, o0, s00, sq, false) = fin ∧ 3 * (402 - s00.1) + fr.length < f ∧ ap_I ts S0 fr none o0 s00 sq ∧ cR P ps S0 fr none ∧ pq_M I L C P (pd_m P + 1) ∧ pq_P I ps ∧ pq_S T I L R C S0 sq P) ∧ ((k0 = 1 ∧ s0 = s00 ∧ tk_now ts s00 = (Int8.ofInt 13).toInt32) ∨ (k0 = 6 ∧ s0 = tk_adv ts s00 ∧ tk_now ts s00 = (Int8.ofInt 27).toInt32 ∧ tk_now ts s0 = (Int8.ofInt 13).toInt32)) ∧ (3 * pd_m P ≤ wl ts s00.1 + pq_w ps ∧ 6 * sq.length ≤ wl ts s00.1 ∧ nc ≤ sq.length ∧ k ≤ s.1 ∧ s0.1 + 1 + (if it = true then 0 else 1) ≤ s.1) ∧ (I (C + 1) (pd_m P) = Int32.ofNat k0 ∧ I (C + 4) (pd_m P) = Int32.ofNat 1 ∧ I (C + 5) (pd_m P) = Int32.ofNat 0 ∧ L (C + 2) (pd_m P) = 0 ∧ L (C + 3) (pd_m P) = 0) ∧ (s.2 = none ∧ ¬ js = [] ∧ sm_run ts n (tk_place ts n s0.1) f2 (S, js, xs, o, s, it) = sq_fin ts n o0 S0 s0 ∧ 402 ≤ f2 + s.1 ∧ sm_I ts o0 fr.length S js xs o s it ∧ rn_E S0 S ∧ rn_g S g xs) ∧ wt_K I L ts n s.1 s.2 ∧ pj_J I js ∧ ww_W fl I L (xs.map (rn_p S)) ∧ ww_I fl (xs.map (rn_p S)) ∧ I 9 7 = Int32.ofNat o ∧ I 9 8 = (if it = true then Int32.ofInt 2 else Int32.ofInt 3) ∧ I 9 9 = Int32.ofNat (tk_place ts n s0.1) ∧ I 9 10 = Int32.ofNat (pd_m P) ∧ I 9 11 = Int32.ofNat g ∧ g < 64
def CR (ts : List wt_t) (n C : Nat) (fin : ap_S) (T0 : wv_T) (N0 : Nat) (I0 : Nat → Nat → Int32) (L0 : Nat → Nat → Int64) (R0 : Nat → Nat → Option Nat) (k : Nat) (T : wv_T) (N : Nat) (I : Nat → Nat → Int32) (L : Nat → Nat → Int64) (R : Nat → Nat → Option Nat) (nc ns : Nat) : Prop := cg_T C T0 N0 R0 T N R nc ns ∧ cg_I C T0 I0 L0 R0 T I L ∧ ((∃ S fr p o s sq P ps f, cr_A ts n C fin T I L R k nc S fr p o s sq P ps f) ∨ cr_F ts n C fin I L k nc ∨ cr_D ts n C fin T I L R k nc ∨ ∃ S0 fr o0 s00 s0 sq P ps f k0 S js xs o s it f2 g fl, cr_I ts n C fin T I L R k nc S0 fr o0 s00 s0 sq P ps f k0 S js xs o s it f2 g fl)
/-- a part laid down -/
theorem pq_add {I I1 : Nat → Nat → Int32} {L L1 : Nat → Nat → Int64} {C k t l m : Nat} {c d : Nat → Bool} {a : nt_A} {P : pd_P} (h : pq_M I L C P m) (hm : pd_m P < 155) (hI : ∀ e j, e = C + 1 ∨ e = C + 4 ∨ e = C + 5 → ¬ j = pd_m P → I1 e j = I e j) (hL : ∀ e j, e = C + 2 ∨ e = C + 3 → ¬ j = pd_m P → L1 e j = L e j) (h8 : I1 C 8 = Int32.ofNat (pd_m P + 1)) (hn : I1 (C + 1) (pd_m P) = Int32.ofNat k ∧ k ≤ 10 ∧ I1 (C + 4) (pd_m P) = Int32.ofNat t ∧ t ≤ 9 ∧ I1 (C + 5) (pd_m P) = Int32.ofNat l ∧ l ≤ 155 ∧ (∀ u, u < 64 → nb (L1 (C + 2) (pd_m P)) u = c u) ∧ ∀ u, u < 64 → nb (L1 (C + 3) (pd_m P)) u = d u) : pq_M I1 L1 C (pd_up P (pd_m P + 1) (pd_m P) k c d t l a) (pd_m P + 1) := by
  refine ⟨h8, by omega, Nat.le_refl _, fun i hi => ?_⟩
  have hi : i < pd_m P + 1 := hi
  by_cases e : i = pd_m P
  · subst e
    obtain ⟨e1, e2, e3, e4, e5, e6, _⟩ := pd_up_at (P := P) (m := pd_m P + 1) (i := pd_m P) (k := k) (c := c) (d := d) (t := t) (l := l) (a := a)
    unfold pq_1
    rw [e1, e2, e3, e4, e5]
    exact hn
  · exact pq_1_c (h.2.2.2 i (by omega)) (fun c hc => hI c i hc e) (fun c hc => hL c i hc e) (pd_up_no e)
theorem pq_S_add {T : wv_T} {I I1 : Nat → Nat → Int32} {L L1 : Nat → Nat → Int64} {R : Nat → Nat → Option Nat} {C k t l : Nat} {c d : Nat → Bool} {a : nt_A} {P : pd_P} {S S2 : rn_N} {sq : List Nat} (h : pq_S T I L R C S sq P) (hS : rn_E S S2) (hk : ¬ ((1 ≤ k ∧ k ≤ 3) ∨ k = 6)) (h9 : I1 C 9 = I C 9) (hI : ∀ e j, C + 9 ≤ e → e < C + 76 → I1 e j = I e j) (hL : ∀ e j, C + 9 ≤ e → e < C + 76 → L1 e j = L e j) (hB : ∀ e B len, C + 9 ≤ e → e < C + 76 → R e 0 = some B → T B = some (.inr (1, len)) → 0 < len → ∀ j, L1 B j = L B j) (hsq : sq.length ≤ 67) : pq_S T I1 L1 R C S2 sq (pd_up P (pd_m P + 1) (pd_m P) k c d t l a) := by
  obtain ⟨h1, h2, h3⟩ := h
  refine ⟨by rw [h9]; exact h1, fun q y hq => ?_, fun i hi hki => ?_⟩
  · obtain ⟨b1, g, b2, b3⟩ := h2 q y hq
    have hql : q < sq.length := (List.getElem?_eq_some_iff.mp hq).1
    obtain ⟨_, k2, k3, _⟩ := rn_E_k hS b1
    refine ⟨Nat.lt_of_lt_of_le b1 hS.1, g, ?_, by rw [k3]; exact b3⟩
    rw [k2, k3]
    exact sq_D_c b2 (fun j => hI _ _ (by omega) (by omega)) (fun j => hL _ _ (by omega) (by omega)) rfl (fun _ _ => rfl) (fun B len hB1 hB2 hB3 => hB _ B len (by omega) (by omega) hB1 hB2 hB3)
  · have hi : i < pd_m P + 1 := hi
    by_cases e : i = pd_m P
    · subst e
      rw [pd_up_at.1] at hki
      exact absurd hki hk
    · obtain ⟨e1, _, _, _, e5, e6⟩ := pd_up_no (P := P) (m := pd_m P + 1) (i := pd_m P) (k := k) (c := c) (d := d) (t := t) (l := l) (a := a) e
      rw [e1] at hki
      obtain ⟨y, y1, y2⟩ := h3 i (by omega) hki
      have hy := (h2 _ y y1).1
      exact ⟨y, by rw [e5]; exact y1, by rw [e6, (rn_E_k hS hy).2.2.1]; exact y2⟩
/-- the rows of steps lie apart -/
theorem pq_O_B {T : wv_T} {N C e B len : Nat} {R : Nat → Nat → Option Nat} (h : pq_O T N R) (hC : C = 28 ∨ C = 124 ∨ C = 220 ∨ C = 346) (h1 : C + 9 ≤ e) (h2 : e < C + 76) (hR : R e 0 = some B) (hT : T B = some (.inr (1, len))) (hl : 0 < len) : 536 ≤ B ∧ B < 1099511627776 := by
  obtain ⟨B2, len2, ⟨o1, o2, o3, o4, o5, o6⟩, _⟩ := h e ⟨C, e - (C + 9), hC, by omega, by omega⟩
  rw [hR] at o2
  cases o2
  rw [hT] at o3
  cases o3
  have := o5 hl
  omega
/-- the frame of a turn that makes nothing -/
theorem cg_I_c {C : Nat} {T0 : wv_T} {N0 N nc ns : Nat} {I0 I I1 : Nat → Nat → Int32} {L0 L L1 : Nat → Nat → Int64} {R0 R : Nat → Nat → Option Nat} {T : wv_T} (hC : C = 28 ∨ C = 124 ∨ C = 220 ∨ C = 346) (hG : cg_T C T0 N0 R0 T N R nc ns) (h : cg_I C T0 I0 L0 R0 T I L) (hI : ∀ c j, ¬ (c = 1 ∧ (j = 8 ∨ j = 9)) → ¬ (9 ≤ c ∧ c ≤ 21) → ¬ (C ≤ c ∧ c < C + 76) → I1 c j = I c j) (hL : ∀ c j, ¬ (9 ≤ c ∧ c ≤ 21) → ¬ (C ≤ c ∧ c < C + 76) → L1 c j = L c j) (hg : ∃ g, I1 9 11 = Int32.ofNat g ∧ g < 64) : cg_I C T0 I0 L0 R0 T I1 L1 := by
  obtain ⟨h1, h2, h3, h4, h5⟩ := h
  refine ⟨fun c j a1 a2 a3 a4 => by rw [hI c j a2 a3 (by omega)]; exact h1 c j a1 a2 a3 a4, fun c j a1 a2 a3 a4 => by rw [hL c j a2 (by omega)]; exact h2 c j a1 a2 a3 a4, wt_LW_L h3 (fun j => hL _ _ (by omega) (by omega)), hg, fun i hi => by rw [hI _ _ (by omega) (by omega) (by omega)]; exact h5 i hi⟩
/-- a fault found -/
theorem cw_fault {ts : List wt_t} {n C : Nat} {fin : ap_S} {T0 : wv_T} {N0 N nc ns k m : Nat} {I0 I I1 : Nat → Nat → Int32} {L0 L L1 : Nat → Nat → Int64} {R0 R : Nat → Nat → Option Nat} {T : wv_T} {s2 : wt_q} (hC : C = 28 ∨ C = 124 ∨ C = 220 ∨ C = 346) (hG : cg_T C T0 N0 R0 T N R nc ns) (h : cg_I C T0 I0 L0 R0 T I L) (hI : ∀ c j, ¬ (c = 1 ∧ (j = 8 ∨ j = 9)) → ¬ (9 ≤ c ∧ c ≤ 21) → ¬ (C ≤ c ∧ c < C + 76) → I1 c j = I c j) (hL : ∀ c j, ¬ (9 ≤ c ∧ c ≤ 21) → ¬ (C ≤ c ∧ c < C + 76) → L1 c j = L c j) (hg : ∃ g, I1 9 11 = Int32.ofNat g ∧ g < 64) (hs : ¬ s2.2 = none) (hK : wt_K I1 L1 ts n s2.1 s2.2) (hf : (ap_t fin).2 = s2.2) (h8 : I1 C 8 = Int32.ofNat m) (hm : m ≤ 155) (hk : k ≤ 402) (hn : 3 * nc ≤ n + 1) : CR ts n C fin T0 N0 I0 L0 R0 k T N I1 L1 R nc ns := ⟨hG, cg_I_c hC hG h hI hL hg, Or.inr (Or.inl ⟨s2, m, hs, hK, hf, h8, hm, hk, hn⟩)⟩
/-- a part added that is no sequence -/
theorem cw_add {ts : List wt_t} {n C : Nat} {fin : ap_S} {T0 : wv_T} {N0 N nc ns k : Nat} {I0 I I1 : Nat → Nat → Int32} {L0 L L1 : Nat → Nat → Int64} {R0 R : Nat → Nat → Option Nat} {T : wv_T} {S S2 : rn_N} {fr fr2 : List ap_F} {p2 : Option Nat} {o o2 : Nat} {s s2 : wt_q} {sq : List Nat} {P : pd_P} {ps ps2 : List (Nat × Bool)} {f kk t l : Nat} {c d : Nat → Bool} {a : nt_A} (hv : ∀ y, y ∈ ts → pr_vt y) (hl : ts.length ≤ 401) (hw : ∀ i, i ≤ ts.length → wl ts i ≤ n + 1) (hn4 : n ≤ 400) (hC : C = 28 ∨ C = 124 ∨ C = 220 ∨ C = 346) (hG : cg_T C T0 N0 R0 T N R nc ns) (h : cg_I C T0 I0 L0 R0 T I L) (hA : cr_A ts n C fin T I L R k nc S fr none o s sq P ps f) (he : ap_1 ts n (S, fr, none, o, s, sq, false) = (S2, fr2, p2, o2, s2, sq, false)) (hs2 : s2.2 = none) (hcR : cR (pd_up P (pd_m P + 1) (pd_m P) kk c d t l a) ps2 S2 fr2 p2) (hkk : ¬ ((1 ≤ kk ∧ kk ≤ 3) ∨ kk = 6)) (hI : ∀ e j, ¬ (e = 1 ∧ (j = 8 ∨ j = 9)) → ¬ (9 ≤ e ∧ e ≤ 21) → ¬ (e = C ∧ j = 8) → ¬ ((e = C + 1 ∨ e = C + 4 ∨ e = C + 5) ∧ j = pd_m P) → I1 e j = I e j) (hL : ∀ e j, ¬ ((e = C + 2 ∨ e = C + 3) ∧ j = pd_m P) → L1 e j = L e j) (hg : ∃ g, I1 9 11 = Int32.ofNat g ∧ g < 64) (h8 : I1 C 8 = Int32.ofNat (pd_m P + 1)) (hnw : I1 (C + 1) (pd_m P) = Int32.ofNat kk ∧ kk ≤ 10 ∧ I1 (C + 4) (pd_m P) = Int32.ofNat t ∧ t ≤ 9 ∧ I1 (C + 5) (pd_m P) = Int32.ofNat l ∧ l ≤ 155 ∧ (∀ u, u < 64 → nb (L1 (C + 2) (pd_m P)) u = c u) ∧ ∀ u, u < 64 → nb (L1 (C + 3) (pd_m P)) u = d u) (hP : pq_P I1 ps2) (hK : wt_K I1 L1 ts n s2.1 s2.2) (hJ : pj_J I1 []) (h7 : I1 9 7 = Int32.ofNat o2) (h98 : I1 9 8 = (if p2.isSome = true then Int32.ofInt 1 else Int32.ofInt 0)) (hF : 3 * (pd_m P + 1) ≤ wl ts s2.1 + pq_w ps2 + (if p2.isSome = true then 2 else 0)) (hQ : 6 * sq.length ≤ wl ts s2.1 + (if p2.isSome = true then 3 else 0)) (hk : s.1 + 1 ≤ s2.1) : CR ts n C fin T0 N0 I0 L0 R0 (k + 1) T N I1 L1 R nc ns := by
  obtain ⟨A1, A2, A3, A4, A5, A6, A7, A8, A9, A10, A11, A12, A13, A14, A15, A16⟩ := hA
  have hsl := A4.2.2.2.2.2.2.2.1
  have hws := hw s.1 hsl
  have A14 : 6 * sq.length ≤ wl ts s.1 + 0 := A14
  have hsq : sq.length ≤ 67 := by omega
  have hm : pd_m P < 155 := by
    have e1 := cR_len A5
    have e2 := pq_w_le ps
    have e3 := A4.2.2.2.2.1
    have e4 := A4.2.2.2.2.2.1
    have A13 : 3 * pd_m P ≤ wl ts s.1 + pq_w ps + 0 := A13
    omega
  obtain ⟨f2, g1, g2, g3, g4, g5, g6⟩ := (ap_step hv hl A4 A1 A2 A3 he).2 hs2
  refine ⟨hG, cg_I_c hC hG h (fun e j a1 a2 a3 => hI e j a1 a2 (by omega) (by omega)) (fun e j a1 a2 => hL e j (by omega)) hg, Or.inl ⟨S2, fr2, p2, o2, s2, sq, _, ps2, f2, hs2, g1, g2 rfl, g3, hcR, pq_add A6 hm (fun e j he hj => hI e j (by omega) (by omega) (by omega) (by omega)) (fun e j he hj => hL e j (by omega)) h8 hnw, hP, pq_S_add A8 g4 hkk (hI _ _ (by omega) (by omega) (by omega) (by omega)) (fun e j a1 a2 => hI _ _ (by omega) (by omega) (by omega) (by omega)) (fun e j a1 a2 => hL _ _ (by omega)) (fun e B len a1 a2 a3 a4 a5 j => ?_) hsq, hK, hJ, h7, h98, hF, hQ, by omega, A16⟩⟩
  obtain ⟨b1, b2⟩ := pq_O_B hG.2.2.2.1 hC a1 a2 a3 a4 a5
  exact hL _ _ (by omega)
