/-! ===== the class: flop ===== -/
/-- what the class's flop must answer for, behind its count -/
def cr_32 (X : Nat) (ki : Int32) (p C nk lk : Nat) (A : Nat → nt_A) (w g : Nat → Nat) (P : pd_P) (v : Nat → Nat) (L0 : Nat → Nat → Int64) (ka : Nat → Nat × (Nat → Nat)) (T : wv_T) (N : Nat) (I : Nat → Nat → Int32) (L : Nat → Nat → Int64) (R : Nat → Nat → Option Nat) (nc ns : Nat) (q : wv_Q) : Prop :=
  ff_n P ka (pd_m P) < 10000000 ∧
  (fb_ko ki (2 + ff_n P ka (pd_m P)) → q (.inr X) T N I L R (nc + 1) (ns + 6)) ∧
  (ki = 0 → q (.inl (some (.int (wb_i (decide (lk = 0)))))) T N I L R nc ns) ∧
  (¬ fb_ko ki (2 + ff_n P ka (pd_m P)) → ¬ ki = 0 → lk = 0 → q (.inl (some (.int (wb_i false)))) T N I L R nc ns) ∧
  (0 < lk → ki = Int32.ofNat (1 + ff_n P ka (pd_m P)) → q (.inl (some (.int (wb_i (decide (¬ I 345 p = 0)))))) T N I L R nc ns) ∧
  ∀ y, 0 < lk → ki = Int32.ofNat (1 + y) → y < ff_n P ka (pd_m P) → (∀ d kb T1 N1 I1 L1 R1 n1 s1, kf_R C nk A g T N I L R d T1 N1 I1 L1 R1 n1 s1 → kf_I C nk 10 A w g T1 N1 I1 L1 R1 → cf_m P C I1 → cf_k P A g kb (pd_m P) → ff_n P kb (pd_m P) ≤ y → q (.inl (some (.int 0))) T1 N1 I1 L1 R1 (nc + n1) (ns + s1)) ∧ ∀ d kb i T1 N1 I1 L1 R1 n1 s1, kf_R C nk A g T N I L R d T1 N1 I1 L1 R1 n1 s1 → kf_I C nk 10 A w g T1 N1 I1 L1 R1 → cf_m P C I1 → i < pd_m P → cf_k P A g kb (i + 1) → ff_n P kb i ≤ y → y - ff_n P kb i < ff_1 P kb i → cr_O C i (y - ff_n P kb i) lk (343 + p) A g P v L0 T1 N1 I1 L1 R1 (nc + n1) (ns + s1) q
def cr_c232 : wv_c1 := fun as T N I L R q => ∃ (pi ki : Int32) (lk len lenB : Nat) (v : Nat → Nat) (C n : Nat → Nat) (W : Nat → Nat → Nat) (nk : Nat → Nat) (A : Nat → Nat → nt_A) (w g : Nat → Nat → Nat) (P : Nat → pd_P), as = [.ref 0, .int pi, .int ki] ∧ wm_T T ∧ (∃ k1, T 27 = some (.inr (k1 + 4, 2))) ∧ (∀ p, p < 2 → R 27 p = some (C p) ∧ pp_D T R (C p) ∧ I (C p) 9 = Int32.ofNat (n p) ∧ n p ≤ 67 ∧ ∀ k, k < n p → I (C p + 9 + k) 2 = Int32.ofNat (W p k) ∧ W p k < 2147483648) ∧ (∃ k2, T 342 = some (.inr (k2 + 4, 2))) ∧ (∀ p, p < 2 → R 342 p = some (343 + p)) ∧ I 0 16 = Int32.ofNat lk ∧ lk ≤ 24 ∧ (∀ k, k < lk → v k < 64) ∧ lk ≤ len ∧ len < 1000000 ∧ lenB < 1000000 ∧ (rw_bp pi → q (.inr 2) T N I L R 1 6) ∧ ∀ p, p < 2 → pi = Int32.ofNat p → (¬ cf_s (n p) (W p) (n p) → q (.inr 1) T N I L R 1 6) ∧ (cf_s (n p) (W p) (n p) → kf_I (C p) (nk p) 400 (A p) (w p) (g p) T N I L R ∧ cf_m (P p) (C p) I ∧ (∀ i, i < pd_m (P p) → fs_b (pd_k (P p) i) → pd_l (P p) i < nk p) ∧ (∀ i, i < pd_m (P p) → pd_k (P p) i = 7 → pd_t (P p) i < 10000) ∧ cr_C (C p) ∧ 2 * pd_m (P p) ≤ lenB ∧ cr_m lk len (343 + p) lenB v L T I L ∧ ∀ d ka T1 N1 I1 L1 R1 n1 s1, kf_R (C p) (nk p) (A p) (g p) T N I L R d T1 N1 I1 L1 R1 n1 s1 → kf_I (C p) (nk p) 210 (A p) (w p) (g p) T1 N1 I1 L1 R1 → cf_m (P p) (C p) I1 → cf_k (P p) (A p) (g p) ka (pd_m (P p)) → cr_32 4 ki p (C p) (nk p) lk (A p) (w p) (g p) (P p) v L ka T1 N1 I1 L1 R1 n1 s1 q)
set_option maxRecDepth 100000 in
theorem wM_232 : ∃ cb ci np, pt_mt 232 = some (1, cb, 4, false, some .boolean, ci, np) := ⟨_, _, _, rfl⟩
set_option maxRecDepth 100000 in
set_option maxHeartbeats 4000000 in
theorem cr_flop {sc : pt_Sc} {d : Nat} : wv_C wm_fx sc (d + 1 + 1 + 1 + 1 + 1 + 1 + 1 + 1) 232 cr_c232 := by
  rintro as T N I L R q ⟨pi, ki, lk, len, lenB, v, C, n, W, nk, A, w, g, P, rfl, hwT, t27, hR, t342, h342, h16, hlk, hv64, hll, hlen, hlenB, hb, h⟩ w0 HR
  obtain ⟨cb, ci, np, hm⟩ := wM_232
  have hc226 : wv_C wm_fx sc (d + 1 + 1 + 1 + 1 + 1 + 1 + 1) 226 cf_c226 := wv_C_deep (by omega) (cf_checkSmall (d := d))
  have hc228 : wv_C wm_fx sc (d + 1 + 1 + 1 + 1 + 1 + 1 + 1) 228 cf_c228 := wv_C_deep (by omega) (cf_flopCount (d := d))
  have hc234 : wv_C wm_fx sc (d + 1 + 1 + 1 + 1 + 1 + 1 + 1) 234 cr_c234 := wv_C_deep (by omega) (cr_partFlop (d := d))
  refine wv_meth (hh := none) rfl (sp := wv_sp [(226, cf_c226), (228, cf_c228), (234, cr_c234)]) (hd := fun _ => none) (n := 0) (n1 := 300) hm zc_232 rfl (wv_sp_ok (fun q hq => by
    rcases List.mem_cons.mp hq with h | h
    · rw [h]; exact hc226
    rcases List.mem_cons.mp h with h | h
    · rw [h]; exact hc228
    rw [List.mem_singleton.mp h]; exact hc234)) ?_ (fun pc P h => by cases h) HR
  refine ⟨pi, C, n, W, rfl, t27, hR, fun z => ⟨Or.inl rfl, hb z⟩, fun p hp e => ?_⟩
  obtain ⟨h1, h2⟩ := h p hp e
  refine ⟨fun z => ⟨Or.inl rfl, h1 z⟩, fun z => ?_⟩
  obtain ⟨d1, d2, d3, d7, d8, d9, d10, d4⟩ := h2 z
  obtain ⟨q1, q2, _⟩ := hR p hp
  obtain ⟨k1, t27⟩ := t27
  obtain ⟨k2, t342⟩ := t342
  have epn := wi_onn (n := p) (by omega)
  refine ⟨_, _, _, t27, by rw [e]; exact pp_b (c := 2) hp (by omega), by rw [e, epn]; exact q1, ?_⟩
  refine ⟨q2.1, C p, nk p, A p, w p, g p, P p, rfl, d1, d2, d3, fun dd ka T1 N1 I1 L1 R1 n1 s1 y1 y2 y3 y4 => ?_⟩
  obtain ⟨o0, o1, o2, o3, o4, o5⟩ := d4 dd ka T1 N1 I1 L1 R1 n1 s1 y1 y2 y3 y4
  have hC4 := d8
  unfold cr_C at hC4
  have gT := (kf_R_f d1.2.1 d1.2.2.1 dd T1 N1 I1 L1 R1 n1 s1 y1).1
  obtain ⟨gN, gF⟩ := kf_R_g d1.2.2.2.1 d1.2.2.1 dd T1 N1 I1 L1 R1 n1 s1 y1
  have g16 : I1 0 16 = Int32.ofNat lk := (gF 0 16 (by omega) (by omega)).1.trans h16
  have em := wi_on (n := 2 + ff_n (P p) ka (pd_m (P p))) (by omega)
  have el := wi_on (n := lk) (by omega)
  have en : 0 + 0 + n1 = n1 := by omega
  have es : 0 + 0 + s1 = s1 := by omega
  rw [← en, ← es] at o1 o2 o3 o4 o5
  refine ⟨fun w1 => o1 (Or.inl w1), fun w1 => ?_⟩
  have w1 : ¬ ki < 0 := w1
  refine ⟨fun w2 => ?_, fun w2 => o1 (Or.inr (Int32.not_lt.mp w2))⟩
  have nko : ¬ fb_ko ki (2 + ff_n (P p) ka (pd_m (P p))) := fun y => y.elim w1 (fun y => absurd w2 (Int32.not_lt.mpr y))
  refine ⟨fun w3 => ?_, fun w3 => ?_⟩
  · have w3 : ki = 0 := w3
    have hq := o2 w3
    refine ⟨fun w4 => absurd w3 w4, fun _ => ?_⟩
    refine ⟨fun w5 => ⟨⟨rfl, rfl⟩, ?_⟩, fun w5 => ⟨⟨rfl, rfl⟩, ?_⟩⟩
    · have w5 : ¬ I1 0 16 = 0 := w5
      rw [g16, wi_eq, el, wi_0] at w5
      rw [decide_eq_false (by omega)] at hq
      exact hq
    · have w5 : ¬ ¬ I1 0 16 = 0 := w5
      rw [g16, wi_eq, el, wi_0] at w5
      rw [decide_eq_true (by omega)] at hq
      exact hq
  have w3 : ¬ ki = 0 := w3
  refine ⟨fun w4 => ?_, fun w4 => ?_⟩
  rotate_left
  · have w4 : ¬ ¬ I1 0 16 = 0 := w4
    rw [g16, wi_eq, el, wi_0] at w4
    exact ⟨fun _ => ⟨⟨rfl, rfl⟩, o3 nko w3 (by omega)⟩, fun w5 => (w5 w3).elim⟩
  have w4 : ¬ I1 0 16 = 0 := w4
  rw [g16, wi_eq, el, wi_0] at w4
  have em1 : Int32.ofNat (2 + ff_n (P p) ka (pd_m (P p))) - Int32.ofInt 1 = Int32.ofNat (1 + ff_n (P p) ka (pd_m (P p))) := by
    rw [show Int32.ofInt 1 = Int32.ofNat 1 from rfl, mr_sub (by omega) (by omega), show 2 + ff_n (P p) ka (pd_m (P p)) - 1 = 1 + ff_n (P p) ka (pd_m (P p)) by omega]
  refine ⟨fun w5 => ?_, fun w5 => ?_⟩
  rotate_left
  · have e3 : ki = Int32.ofNat (1 + ff_n (P p) ka (pd_m (P p))) := (Classical.not_not.mp w5).trans em1
    have hq := o4 (by omega) e3
    refine ⟨_, gT _ _ (wm_t hwT rfl), by rw [e]; exact pp_b (c := 2) hp (by omega), ?_⟩
    rw [e, epn]
    refine ⟨fun w6 => ⟨⟨rfl, rfl⟩, ?_⟩, fun w6 => ⟨⟨rfl, rfl⟩, ?_⟩⟩
    · have w6 : I1 345 p = 0 := w6
      rw [decide_eq_false (fun y => y w6)] at hq
      exact hq
    · rw [decide_eq_true w6] at hq
      exact hq
  have w5 : ¬ ki = Int32.ofNat (2 + ff_n (P p) ka (pd_m (P p))) - Int32.ofInt 1 := w5
  rw [em1] at w5
  rw [wi_lt, em] at w2
  rw [wi_lt, wi_0] at w1
  obtain ⟨kk, hkk, e2⟩ : ∃ kk, kk < 2 + ff_n (P p) ka (pd_m (P p)) ∧ ki = Int32.ofNat kk := ⟨ki.toInt.toNat, by omega, wi_eq.mpr (by rw [wi_on (by omega)]; omega)⟩
  have ekk := wi_on (n := kk) (by omega)
  rw [e2, wi_eq, ekk, wi_on (by omega)] at w5
  rw [e2, wi_eq, ekk, wi_0] at w3
  have esub : Int32.ofNat kk - Int32.ofInt 1 = Int32.ofNat (kk - 1) := mr_sub (b := 1) (by omega) (by omega)
  obtain ⟨u1, u2⟩ := o5 (kk - 1) (by omega) (by rw [e2, show 1 + (kk - 1) = kk by omega]) (by omega)
  have r27 : R1 27 p = some (C p) := (gF 27 p (by omega) (by omega)).2.2.trans q1
  have r342 : R1 342 p = some (343 + p) := (gF 342 p (by omega) (by omega)).2.2.trans (h342 p hp)
  have hmm : cr_m lk len (343 + p) lenB v L1 T1 I1 L1 := ⟨gT _ _ d10.1, gT _ _ d10.2.1, fun k hk => (gF 341 k (by omega) (by omega)).1.trans (d10.2.2.1 k hk), fun _ => rfl⟩
  have hLL : ∀ j, L1 (343 + p) j = L (343 + p) j := fun j => (gF (343 + p) j (by omega) (by omega)).2.1
  refine ⟨_, _, _, gT _ _ t27, by rw [e]; exact pp_b (c := 2) hp (by omega), by rw [e, epn]; exact r27, ?_⟩
  refine ⟨_, _, _, gT _ _ t342, by rw [e]; exact pp_b (c := 2) hp (by omega), by rw [e, epn]; exact r342, ?_⟩
  have hK2 : kf_I (C p) (nk p) 200 (A p) (w p) (g p) T1 N1 I1 L1 R1 := ⟨y2.1, y2.2.1, y2.2.2.1, y2.2.2.2.1, by have := y2.2.2.2.2.1; omega, y2.2.2.2.2.2⟩
  refine ⟨y2.1.1, C p, nk p, kk - 1, lk, len, 343 + p, lenB, A p, w p, g p, P p, v, (by first | rfl | (rw [e2, esub, g16]; rfl)), hK2, d8, y3, d3, d7, by omega, hmm, d9, hlenB, hlen, hll, hlk, hv64, by omega, fun d kb T2 N2 I2 L2 R2 n2 s2 v1 v2 v3 v4 v5 => ⟨⟨rfl, rfl⟩, u1 d kb T2 N2 I2 L2 R2 n2 s2 v1 v2 v3 v4 v5⟩, fun d kb i T2 N2 I2 L2 R2 n2 s2 v1 v2 v3 v4 v5 v6 v7 => ?_⟩
  have hO := u2 d kb i T2 N2 I2 L2 R2 n2 s2 v1 v2 v3 v4 v5 v6 v7
  unfold cr_O at hO ⊢
  rw [hLL, hLL]
  obtain ⟨x1, x5, x7, x8⟩ := hO
  refine ⟨fun z1 T3 N3 I3 L3 R3 n3 s3 a1 E B K mv kd a2 => ⟨(x1 z1 T3 N3 I3 L3 R3 n3 s3 a1 E B K mv kd a2).1, fun c b a3 a4 a5 => ?_⟩, fun z1 b a5 => ?_, fun z1 b a5 => ?_, fun z1 b a5 => ?_⟩
  · have hq := (x1 z1 T3 N3 I3 L3 R3 n3 s3 a1 E B K mv kd a2).2 c b a3 a4 a5
    rw [Nat.add_assoc (0 + 0 + n1), Nat.add_assoc (0 + 0 + s1)] at hq
    cases b with
    | true => exact ⟨⟨rfl, rfl⟩, hq⟩
    | false => exact ⟨⟨rfl, rfl⟩, hq⟩
  · have hq := x5 z1 b a5
    cases b with
    | true => exact ⟨⟨rfl, rfl⟩, hq⟩
    | false => exact ⟨⟨rfl, rfl⟩, hq⟩
  · have hq := x7 z1 b a5
    cases b with
    | true => exact ⟨⟨rfl, rfl⟩, hq⟩
    | false => exact ⟨⟨rfl, rfl⟩, hq⟩
  · have hq := x8 z1 b a5
    cases b with
    | true => exact ⟨⟨rfl, rfl⟩, hq⟩
    | false => exact ⟨⟨rfl, rfl⟩, hq⟩
