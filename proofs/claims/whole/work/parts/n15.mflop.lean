/-! ===== the reference: flop ===== -/
def fb_Q (S : rn_N) (lk : Nat) (v : Nat → Nat) (Q : Nat → Prop) : Prop := ∀ n, Q n → fb_kid S n ∧ fb_kd2 S n ∧ ∀ en u y t, fb_to S lk v en n u y t → ¬ y = n
/-- flip-flop x of part k is b -/
def fb_A (S : rn_N) (lk : Nat) (v : Nat → Nat) (P : pd_P) (U : Nat → np_A) (pn : Nat → Nat) (ka : Nat → Nat × (Nat → Nat)) (bg : Nat → Nat → Bool) (L : Nat → Nat → Int64) (k x : Nat) (b : Bool) : Prop :=
  (fs_b (pd_k P k) ∧ ∃ (mv : Nat → Nat → Nat) (c : Nat), rk_c (U (nq_l (rn_d S (pn k)))) (ka k).1 mv (ka k).2 ∧ c < (ka k).1 ∧ kk_x (ka k).2 2 (fb_sk (rn_k S (pn k))) x c ∧ (b = true ↔ fb_sf (rn_k S (pn k)) lk (bg (pn k)) (fun i t => fb_e L (nq_l (rn_d S (pn k))) i t) v mv c)) ∨
  (¬ fs_b (pd_k P k) ∧ (b = true ↔ fb_fo S lk v (bg (pn k)) (pn k) x))
def fb_K (ki : Int32) (S : rn_N) (lk : Nat) (v : Nat → Nat) (P : pd_P) (U : Nat → np_A) (pn : Nat → Nat) (ka : Nat → Nat × (Nat → Nat)) (bg : Nat → Nat → Bool) (T : wv_T) (N : Nat) (I : Nat → Nat → Int32) (L : Nat → Nat → Int64) (R : Nat → Nat → Option Nat) (q : wv_Q) : Prop := ∀ (k x : Nat) (b : Bool), k < pd_m P → x < ff_1 P ka k → ki = Int32.ofNat (1 + (x + ff_n P ka k)) → fb_A S lk v P U pn ka bg L k x b → q (.inl (some (.int (wb_i b)))) T N I L R 0 0
def fb_ko (ki : Int32) (n : Nat) : Prop := ki < 0 ∨ Int32.ofNat n ≤ ki
def fb_42 (p : Nat) (ki : Int32) (lk : Nat) (v : Nat → Nat) (S : rn_N) (x0 : Nat) (P : pd_P) (U : Nat → np_A) (pn : Nat → Nat) (ka : Nat → Nat × (Nat → Nat)) (T : wv_T) (N : Nat) (I : Nat → Nat → Int32) (L : Nat → Nat → Int64) (R : Nat → Nat → Option Nat) (q : wv_Q) : Prop :=
  (fb_ko ki (2 + ff_n P ka (pd_m P)) → q (.inl (some (.int 0))) T N (wv_u I 460 0 3) L R 0 0) ∧
  (ki = 0 → q (.inl (some (.int (wb_i (decide (lk = 0)))))) T N I L R 0 0) ∧
  (ki = Int32.ofNat (1 + ff_n P ka (pd_m P)) → q (.inl (some (.int (wb_i (decide (0 < I 490 p)))))) T N I L R 0 0) ∧
  ∀ (bg : Nat → Nat → Bool) (I2 : Nat → Nat → Int32) (L2 : Nat → Nat → Int64), fb_F I I2 → mr_FL L L2 → ns_sol (rn_d S) (rn_h S) (pd_wn v lk) (lk + mr_wd S) (rn_n S) (mr_S L2 (lk + mr_wd S)) → (∀ y t, t < lk → (bg y t = true ↔ fb_G S lk v (fb_e L2) pn x0 (pd_m P) y t)) → fb_K ki S lk v P U pn ka bg T N I2 L2 R q
theorem ff_Z_F {p : Nat} {S : rn_N} {m0 x : Nat} {P : pd_P} {Q : Nat → Prop} {pa : Nat → Nat} {U : Nat → np_A} {pn : Nat → Nat} {ka : Nat → Nat × (Nat → Nat)} {T : wv_T} {I J : Nat → Nat → Int32} (h : ff_Z p S m0 x P Q pa U pn ka T I) (g : fb_F I J) : ff_Z p S m0 x P Q pa U pn ka T J := by
  obtain ⟨z1, ⟨z2, z2b⟩, z3, z4, z5, z6, z7⟩ := h
  have g1 : ∀ c j, ¬ c = 491 → ¬ c = 495 → ¬ c = 526 → ¬ (c = 460 ∧ j = 49) → J c j = I c j := g
  refine ⟨fp_X z1 (fun c j c1 c2 => g1 c j (by omega) (by omega) (by omega) (by omega)), ⟨(g1 _ _ (by omega) (by omega) (by omega) (by omega)).trans z2, (g1 _ _ (by omega) (by omega) (by omega) (by omega)).trans z2b⟩, (g1 _ _ (by omega) (by omega) (by omega) (by omega)).trans z3, z4, fun i hi => ⟨(g1 _ _ (by omega) (by omega) (by omega) (by omega)).trans (z5 i hi).1, (g1 _ _ (by omega) (by omega) (by omega) (by omega)).trans (z5 i hi).2⟩, (g1 _ _ (by omega) (by omega) (by omega) (by omega)).trans z6, fun i hi hb => ?_⟩
  obtain ⟨mv, c1, c2⟩ := z7 i hi hb
  exact ⟨mv, c1, rk_T_c c2 (fun c j e1 e2 => g1 c j (by omega) (by omega) (by omega) (by omega))⟩
theorem ff_1_lt {p : Nat} {S : rn_N} {m0 x : Nat} {P : pd_P} {Q : Nat → Prop} {pa pb : Nat → Nat} {U : Nat → np_A} {pn : Nat → Nat} {ka : Nat → Nat × (Nat → Nat)} {T : wv_T} {I : Nat → Nat → Int32} (hD : fp_D S P Q pa pb x) (h : ff_Z p S m0 x P Q pa U pn ka T I) (hq : ∀ n, Q n → rn_k S n = 12 → nq_a (rn_d S n) < 5000) : ∀ i, i < pd_m P → ff_1 P ka i < 5000 := by
  intro i hi
  obtain ⟨d1, d2, _⟩ := hD
  obtain ⟨z1, z2, z3, z4, z5, z6, z7⟩ := h
  have cls : fs_b (pd_k P i) → ∀ a b : Nat, kk_n (ka i).2 a b (ka i).1 < 5000 := fun hb a b => by
    obtain ⟨mv, c1, c2⟩ := z7 i hi hb
    have h1 := kk_n_le (kd := (ka i).2) (a := a) (b := b) (ka i).1
    have h2 := c2.2.2.1
    omega
  by_cases e1 : pd_k P i = 1
  · rw [ff_1, if_pos e1]
    exact cls (Or.inl e1) _ _
  by_cases e2 : pd_k P i = 2 ∨ pd_k P i = 3 ∨ pd_k P i = 6
  · rw [ff_1, if_neg e1, if_pos e2]
    exact cls (Or.inr e2) _ _
  by_cases e3 : pd_k P i = 5 ∨ pd_k P i = 8 ∨ pd_k P i = 9
  · rw [ff_1, if_neg e1, if_neg e2, if_pos e3]
    omega
  by_cases e4 : pd_k P i = 7
  · rw [ff_1, if_neg e1, if_neg e2, if_neg e3, if_pos e4]
    obtain ⟨hQ, hpa⟩ := z4 i hi
    have tq := (d1 _ hQ).1
    rw [hpa] at tq
    have hkk : nq_k (rn_d S (pn i)) = rn_k S (pn i) := rfl
    have h12 := hq _ hQ
    rcases tq with ⟨h1, h2, h3⟩ | ⟨h1, h2, h3⟩ | ⟨h1, h2, h3⟩ | ⟨h1, h2, h3⟩ | ⟨h1, h2, h3⟩ | ⟨h1, h2, h3⟩ | ⟨h1, h2, h3⟩ | ⟨h1, h2, h3, h4⟩ | ⟨h1, h2, h3⟩ | ⟨h1, h2, h3⟩ | ⟨h1, h2, h3⟩
    all_goals first
      | omega
      | (have h5 := h12 (by omega); omega)
  · rw [ff_1, if_neg e1, if_neg e2, if_neg e3, if_neg e4]
    omega
theorem ff_n_lt {P : pd_P} {ka : Nat → Nat × (Nat → Nat)} (h : ∀ i, i < pd_m P → ff_1 P ka i < 5000) : ∀ k, k ≤ pd_m P → ff_n P ka k ≤ 5000 * k
  | 0, _ => Nat.le_refl _
  | k + 1, hk => by
    have h1 := ff_n_lt h k (by omega)
    have h2 := h k (by omega)
    have e : ff_n P ka (k + 1) = ff_n P ka k + ff_1 P ka k := rfl
    omega
def fb_l42 (pi ki : Int32) (a x t : Nat) : List (Option Value) := [some (.ref 460), some (.int pi), some (.int ki), some (.int (Int32.ofNat a)), some (.int (Int32.ofNat x)), some (.int (Int32.ofNat t)), none, none, none]
def fb_h442 (pi ki : Int32) (lk : Nat) (v : Nat → Nat) (S : Nat → rn_N) (m0 x : Nat → Nat) (sq : Nat → List Nat) (PP : Nat → pd_P) (Q : Nat → Nat → Prop) (pa pb lo : Nat → Nat → Nat) (U : Nat → Nat → np_A) (cl : Nat → Nat → Nat → Nat) (Al : Nat → Nat → Nat → Prop) (q : wv_Q) (T : wv_T) (N : Nat) (I : Nat → Nat → Int32) (L : Nat → Nat → Int64) (R : Nat → Nat → Option Nat) : Nat → Option (Nat → wv_P) := fun pc =>
  if pc = 88 then some (fun mm lv st T1 N1 I1 L1 R1 nc ns => ∃ (p a x1 t1 : Nat) (pn : Nat → Nat) (ka : Nat → Nat × (Nat → Nat)) (bg : Nat → Nat → Bool), lv = fb_l42 pi ki a x1 t1 ∧ st = [] ∧ T1 = T ∧ N1 = N ∧ R1 = R ∧ nc = 0 ∧ ns = 0 ∧ p < 2 ∧ fp_D (S p) (PP p) (Q p) (pa p) (pb p) (x p) ∧ ff_Z p (S p) (m0 p) (x p) (PP p) (Q p) (pa p) (U p) pn ka T I1 ∧ mr_X T I1 (S p) (m0 p) lk (mr_wd (S p)) v ∧ fb_M (rn_n (S p)) lk bg I1 ∧ (∀ k, k < lk → I1 489 k = Int32.ofNat (v k)) ∧ (∀ i, i < pd_m (PP p) → fb_kd2 (S p) (pn i)) ∧ (∀ i, i < pd_m (PP p) → ff_1 (PP p) ka i < 5000) ∧ t1 ≤ pd_m (PP p) ∧ x1 + ff_n (PP p) ka t1 < ff_n (PP p) ka (pd_m (PP p)) ∧ ff_n (PP p) ka (pd_m (PP p)) ≤ 5000 * pd_m (PP p) ∧ ki = Int32.ofNat (1 + (x1 + ff_n (PP p) ka t1)) ∧ fb_K ki (S p) lk v (PP p) (U p) pn ka bg T N I1 L1 R q ∧ mm = 1000 - t1)
  else none
def fb_c442 : wv_c1 := fun as T N I L R q => ∃ (pi ki : Int32) (lk : Nat) (v : Nat → Nat) (S : Nat → rn_N) (m0 x : Nat → Nat) (sq : Nat → List Nat) (P : Nat → pd_P) (Q : Nat → Nat → Prop) (pa pb lo : Nat → Nat → Nat) (U : Nat → Nat → np_A) (cl : Nat → Nat → Nat → Nat) (Al : Nat → Nat → Nat → Prop), as = [.ref 460, .int pi, .int ki] ∧ (∀ p, p < 2 → rk_I T I p (S p) (m0 p) (x p) (sq p)) ∧ (rw_bp pi → q (.inl (some (.int 0))) T N (wv_u I 460 0 1) L R 0 0) ∧ I 460 46 = Int32.ofNat lk ∧ lk ≤ 24 ∧ (∀ k, k < lk → I 489 k = Int32.ofNat (v k) ∧ v k < 64) ∧ ∀ p, p < 2 → pi = Int32.ofNat p → (fw (S p) = true → mr_ok (S p) (m0 p) (x p) ∧ fb_Q (S p) lk v (Q p)) ∧ ff_Y p (S p) (m0 p) (x p) (P p) (Q p) (pa p) (pb p) (lo p) (U p) (cl p) (Al p) T I L (fun I1 => I1 460 0 = 2 → q (.inl (some (.int 0))) T N I1 L R 0 0) (fun pn ka I1 L1 => I1 460 0 = 0 → fb_42 p ki lk v (S p) (x p) (P p) (U p) pn ka T N I1 L1 R q)
set_option maxRecDepth 100000 in
theorem wM_442 : ∃ cb ci np, pt_mt 442 = some (32, cb, 6, false, some .boolean, ci, np) := ⟨_, _, _, rfl⟩
set_option maxRecDepth 100000 in
set_option maxHeartbeats 4000000 in
theorem fb_flop {sc : pt_Sc} {d : Nat} : wv_C wm_fx sc (d + 1 + 1 + 1 + 1 + 1 + 1 + 1 + 1 + 1 + 1) 442 fb_c442 := by
  rintro as T N I L R q ⟨pi, ki, lk, v, S, m0, x, sq, PP, Q, pa, pb, lo, U, cl, Al, rfl, hI, hb, h46, hlk, hv, h⟩ w0 HR
  obtain ⟨cb, ci, np, hm⟩ := wM_442
  have hc437 : wv_C wm_fx sc (d + 1 + 1 + 1 + 1 + 1 + 1 + 1 + 1 + 1) 437 ff_c437 := wv_C_deep (by omega) (ff_mflops (d := d))
  have hc443 : wv_C wm_fx sc (d + 1 + 1 + 1 + 1 + 1 + 1 + 1 + 1 + 1) 443 fb_c443 := wv_C_deep (by omega) (fb_findBegun (d := d))
  have hc440 : wv_C wm_fx sc (d + 1 + 1 + 1 + 1 + 1 + 1 + 1 + 1 + 1) 440 ff_c440 := wv_C_deep (by omega) (ff_mflopsOf (d := d))
  have hc446 : wv_C wm_fx sc (d + 1 + 1 + 1 + 1 + 1 + 1 + 1 + 1 + 1) 446 fb_c446 := wv_C_deep (by omega) (fb_flopOf (d := d))
  refine wv_meth (hh := none) rfl (sp := wv_sp [(437, ff_c437), (443, fb_c443), (440, ff_c440), (446, fb_c446)]) (hd := fb_h442 pi ki lk v S m0 x sq PP Q pa pb lo U cl Al q T N I L R) (n := 300) (n1 := 300) hm zc_442 rfl (wv_sp_ok (fun q hq => by
    rcases List.mem_cons.mp hq with h | h
    · rw [h]; exact hc437
    rcases List.mem_cons.mp h with h | h
    · rw [h]; exact hc443
    rcases List.mem_cons.mp h with h | h
    · rw [h]; exact hc440
    rw [List.mem_singleton.mp h]; exact hc446)) ?_ ?_ HR
  · refine ⟨pi, S, m0, x, sq, PP, Q, pa, pb, lo, U, cl, Al, rfl, hI, fun z => ⟨fun w => ?_, fun _ => ⟨⟨rfl, rfl⟩, hb z⟩⟩, fun p hp e => ?_⟩
    · have w : wv_u I 460 0 1 460 0 ≤ 0 := w
      rw [wv_u_at] at w
      exact absurd w (by decide)
    obtain ⟨hm1, h1, h2⟩ := h p hp e
    refine ⟨fun z I1 f1 f2 => ⟨fun w => ?_, fun _ => ⟨⟨rfl, rfl⟩, h1 z I1 f1 f2⟩⟩, fun z => ?_⟩
    · have w : I1 460 0 ≤ 0 := w
      rw [f2] at w
      exact absurd w (by decide)
    obtain ⟨d1, d2, d3⟩ := h2 z
    obtain ⟨⟨hn5, hm0, hx, hIi, hqq, hab⟩, hQQ⟩ := hm1 z
    refine ⟨d1, d2, fun pn ka I1 L1 k1 k2 k3 k4 => ⟨fun _ => ?_, fun w => ?_⟩⟩
    rotate_left
    · have w : ¬ I1 460 0 ≤ 0 := w
      rw [k4] at w
      exact absurd (by decide) w
    obtain ⟨o1, o2, o3, o4⟩ := d3 pn ka I1 L1 k1 k2 k3 k4
    have hT := (hI p hp).1
    have epn := wi_onn (n := p) (by omega)
    have el := wi_on (n := lk) (by omega)
    have hm155 := d1.2.2.2.2.2.1
    have hf1 := ff_1_lt d1 k1 (fun n hn => (hQQ n hn).1.2.2.2.2.2)
    have hfn := ff_n_lt hf1 _ (Nat.le_refl _)
    have em := wi_on (n := 2 + ff_n (PP p) ka (pd_m (PP p))) (by omega)
    have g46 : I1 460 46 = Int32.ofNat lk := (k2 _ _ (by omega) (by omega) (by omega) (by omega) (by omega) (by omega) (by omega) (by omega) (by omega)).trans h46
    have g489 : ∀ k, k < lk → I1 489 k = Int32.ofNat (v k) := fun k hk => (k2 _ _ (by omega) (by omega) (by omega) (by omega) (by omega) (by omega) (by omega) (by omega) (by omega)).trans (hv k hk).1
    refine ⟨fun w1 => ⟨⟨rfl, rfl⟩, o1 (Or.inl w1)⟩, fun w1 => ?_⟩
    have w1 : ¬ ki < 0 := w1
    refine ⟨fun w2 => ?_, fun w2 => ⟨⟨rfl, rfl⟩, o1 (Or.inr ?_)⟩⟩
    rotate_left
    · rw [wi_lt] at w2
      exact wi_le.mpr (by omega)
    rw [wi_lt, em] at w2
    rw [wi_lt, wi_0] at w1
    obtain ⟨kk, hkk, e2⟩ : ∃ kk, kk < 2 + ff_n (PP p) ka (pd_m (PP p)) ∧ ki = Int32.ofNat kk := ⟨ki.toInt.toNat, by omega, wi_eq.mpr (by rw [wi_on (by omega)]; omega)⟩
    have ekk := wi_on (n := kk) (by omega)
    refine ⟨fun w3 => ?_, fun w3 => ?_⟩
    · have w3 : ki = 0 := w3
      refine ⟨fun w4 => absurd w3 w4, fun _ => ?_⟩
      have hq0 := o2 w3
      refine ⟨fun w5 => ⟨⟨rfl, rfl⟩, ?_⟩, fun w5 => ⟨⟨rfl, rfl⟩, ?_⟩⟩
      · have w5 : ¬ I1 460 46 = 0 := w5
        rw [g46, wi_eq, el, wi_0] at w5
        rw [decide_eq_false (by omega)] at hq0
        exact hq0
      · have w5 : ¬ ¬ I1 460 46 = 0 := w5
        rw [g46, wi_eq, el, wi_0] at w5
        rw [decide_eq_true (by omega)] at hq0
        exact hq0
    have w3 : ¬ ki = 0 := w3
    have em1 : Int32.ofNat (2 + ff_n (PP p) ka (pd_m (PP p))) - Int32.ofInt 1 = Int32.ofNat (1 + ff_n (PP p) ka (pd_m (PP p))) := by
      rw [show Int32.ofInt 1 = Int32.ofNat 1 from rfl, mr_sub (by omega) (by omega), show 2 + ff_n (PP p) ka (pd_m (PP p)) - 1 = 1 + ff_n (PP p) ka (pd_m (PP p)) by omega]
    have em2 := wi_on (n := 1 + ff_n (PP p) ka (pd_m (PP p))) (by omega)
    refine ⟨fun w4 => ?_, fun w4 => ?_⟩
    · have w4 : ¬ ki = Int32.ofNat (2 + ff_n (PP p) ka (pd_m (PP p))) - Int32.ofInt 1 := w4
      rw [em1, e2, wi_eq, ekk, em2] at w4
      rw [e2, wi_eq, ekk, wi_0] at w3
      obtain ⟨⟨z11, z12, z13, z14⟩, ⟨z2, z2b⟩, z3, z4, z5, z6, z7⟩ := k1
      have k1 : ff_Z p (S p) (m0 p) (x p) (PP p) (Q p) (pa p) (U p) pn ka T I1 := ⟨⟨z11, z12, z13, z14⟩, ⟨z2, z2b⟩, z3, z4, z5, z6, z7⟩
      refine ⟨S p, m0 p, lk, mr_wd (S p), x p, pd_m (PP p), v, pn, rfl, hT, ⟨z2, hn5, hm0, z14⟩, g46, hlk, z2b, mr_wd_le _, fun k hk => ⟨g489 k hk, (hv k hk).2⟩, hIi, hqq, hab, z3, hx, z6, fun k hk => (z5 k hk).1, ⟨hm155, fun k hk => ?_⟩, fun bg I2 L2 hX2 hF2 hL2 hS2 hB2 hG2 => ?_⟩
      · have y1 := d1.2.1 _ (z4 k hk).1
        have y2 := hQQ _ (z4 k hk).1
        exact ⟨y1.1, y1.2, y2.1, y2.2.2⟩
      · refine ⟨1000 - 0, p, 2 + ff_n (PP p) ka (pd_m (PP p)), kk - 1, 0, pn, ka, bg, ?_, rfl, rfl, rfl, rfl, rfl, rfl, hp, d1, ff_Z_F k1 hF2, hX2, hB2, fun k hk => (hF2 _ _ (by omega) (by omega) (by omega) (by omega)).trans (g489 k hk), fun i hi => (hQQ _ (z4 i hi).1).2.1, hf1, Nat.zero_le _, ?_, hfn, ?_, o4 bg I2 L2 hF2 hL2 hS2 hG2, rfl⟩
        · unfold fb_l42
          rw [← mr_sub (a := kk) (b := 1) (by omega) (by omega), ← e2]
          rfl
        · show kk - 1 + 0 < _
          omega
        · rw [e2]
          show _ = Int32.ofNat (1 + (kk - 1 + 0))
          congr 1
          omega
    · have e3 : ki = Int32.ofNat (1 + ff_n (PP p) ka (pd_m (PP p))) := (Classical.not_not.mp w4).trans em1
      have hq0 := o3 e3
      refine ⟨fun _ => ?_, fun w5 => (w5 w3).elim⟩
      refine ⟨_, wm_t hT rfl, by rw [e]; exact pp_b (c := 2) (by omega) (by omega), ?_⟩
      rw [e, epn]
      refine ⟨fun w6 => ⟨⟨rfl, rfl⟩, ?_⟩, fun w6 => ⟨⟨rfl, rfl⟩, ?_⟩⟩
      · have w6 : I1 490 p ≤ 0 := w6
        rw [wi_le, wi_0] at w6
        rw [decide_eq_false (fun y => by rw [wi_lt, wi_0] at y; omega)] at hq0
        exact hq0
      · have w6 : ¬ I1 490 p ≤ 0 := w6
        rw [wi_le, wi_0] at w6
        rw [decide_eq_true (by rw [wi_lt, wi_0]; omega)] at hq0
        exact hq0
  · intro pc P hP m lv st T1 N1 I1 L1 R1 nc ns hh
    unfold fb_h442 at hP
    by_cases p88 : pc = 88
    · rw [if_pos p88] at hP
      cases hP
      subst p88
      obtain ⟨p, a, x1, t1, pn, ka, bg, rfl, rfl, rfl, rfl, rfl, rfl, rfl, hp, hD, hZ, hX, hB, h489, hkd, hf1, ht1, hx1, hfn, hki, hK, rfl⟩ := hh
      have hm155 := hD.2.2.2.2.2.1
      have hat : t1 < pd_m (PP p) := by
        rcases Nat.lt_or_ge t1 (pd_m (PP p)) with y | y
        · exact y
        · have e5 : t1 = pd_m (PP p) := by omega
          rw [e5] at hx1
          omega
      have hf2 := hf1 t1 hat
      have ex := wi_on (n := x1) (by omega)
      have ef := wi_on (n := ff_1 (PP p) ka t1) (by omega)
      refine ⟨S p, m0 p, p, x p, t1, PP p, Q p, pa p, pb p, U p, pn, ka, rfl, hp, hat, hD, hZ, ?_⟩
      refine ⟨fun w => ?_, fun w => ?_⟩
      · rw [wi_lt, ex, ef] at w
        refine ⟨S p, m0 p, p, x p, t1, x1, lk, mr_wd (S p), PP p, Q p, pa p, pb p, U p, pn, ka, v, bg, rfl, hp, hat, by omega, by omega, hD, hZ, hX, hkd t1 hat, hB, h489, fun hb mv c b c1 c2 c3 c4 => ?_, fun hb b c4 => ?_⟩
        · have hq0 := hK t1 x1 b hat (by omega) hki (Or.inl ⟨hb, mv, c, c1, c2, c3, c4⟩)
          cases b with
          | true => exact ⟨⟨rfl, rfl⟩, hq0⟩
          | false => exact ⟨⟨rfl, rfl⟩, hq0⟩
        · have hq0 := hK t1 x1 b hat (by omega) hki (Or.inr ⟨hb, c4⟩)
          cases b with
          | true => exact ⟨⟨rfl, rfl⟩, hq0⟩
          | false => exact ⟨⟨rfl, rfl⟩, hq0⟩
      · rw [wi_lt, ex, ef] at w
        refine ⟨S p, m0 p, p, x p, t1, PP p, Q p, pa p, pb p, U p, pn, ka, rfl, hp, hat, hD, hZ, ?_⟩
        have es : ff_n (PP p) ka (t1 + 1) = ff_n (PP p) ka t1 + ff_1 (PP p) ka t1 := rfl
        refine ⟨1000 - (t1 + 1), by omega, p, a, x1 - ff_1 (PP p) ka t1, t1 + 1, pn, ka, bg, ?_, rfl, rfl, rfl, rfl, rfl, rfl, hp, hD, hZ, hX, hB, h489, hkd, hf1, by omega, ?_, hfn, ?_, hK, rfl⟩
        · unfold fb_l42
          rw [← mr_sub (a := x1) (b := ff_1 (PP p) ka t1) (by omega) (by omega), ← wq_4s t1]
          rfl
        · rw [es]
          omega
        · rw [hki, es]
          congr 1
          omega
    rw [if_neg p88] at hP
    cases hP
