/-! ===== the reference: a run fails ===== -/
theorem dz_shv : ∀ (k : Fin 12) (h : Fin 64) (l : Fin 64), Int32.ofNat (64 * h.1 + l.1) >>> (Int32.ofNat k.1 &&& 31) = Int32.ofNat ((64 * h.1 + l.1) / 2 ^ k.1) := by decide +kernel
theorem dz_shw (k : Fin 12) (w : Fin 4096) : Int32.ofNat w.1 >>> (Int32.ofNat k.1 &&& 31) = Int32.ofNat (w.1 / 2 ^ k.1) := by
  have h := dz_shv k ⟨w.1 / 64, by omega⟩ ⟨w.1 % 64, by omega⟩
  have e : 64 * (w.1 / 64) + w.1 % 64 = w.1 := by omega
  simp only [e] at h
  exact h
theorem dz_an (a b : Nat) : Int32.ofNat a &&& Int32.ofNat b = Int32.ofNat (a &&& b) := by
  apply Int32.toBitVec_inj.mp
  show BitVec.ofNat 32 a &&& BitVec.ofNat 32 b = BitVec.ofNat 32 (a &&& b)
  apply BitVec.eq_of_getLsbD_eq
  intro i hi
  simp [hi]
/-- the inputs of word w of len cycles -/
def dz_u (a len w t : Nat) : Nat := w / 2 ^ (a * (len - 1 - t)) % 2 ^ a
/-- the latches after t cycles -/
def dz_r (a b g : Nat) (nx : Nat → Nat) (fi : Nat → Bool) (sg on tw : Nat → Nat) (u : Nat → Nat) : Nat → Nat
  | 0 => dz_B fi b
  | t + 1 => dz_nx a b g nx fi sg on tw (dz_r a b g nx fi sg on tw u t) (u t)
def dz_w (a b g : Nat) (nx : Nat → Nat) (fi : Nat → Bool) (sg on tw : Nat → Nat) (u : Nat → Nat) (t : Nat) : Nat := dz_let a b g nx fi sg on tw (dz_r a b g nx fi sg on tw u t) (u t)
theorem dz_p5 {b : Nat} (h : b ≤ 5) : 2 ^ b ≤ 32 := Nat.pow_le_pow_right (by omega) h
theorem dz_p3 {a : Nat} (h : a ≤ 3) : 2 ^ a ≤ 8 := Nat.pow_le_pow_right (by omega) h
theorem dz_r_lt {a b g : Nat} {nx : Nat → Nat} {fi : Nat → Bool} {sg on tw : Nat → Nat} {u : Nat → Nat} (hb : b ≤ 5) : ∀ t, dz_r a b g nx fi sg on tw u t < 32
  | 0 => Nat.lt_of_lt_of_le (dz_B_lt fi b) (dz_p5 hb)
  | _ + 1 => Nat.lt_of_lt_of_le (dz_B_lt _ b) (dz_p5 hb)
theorem dz_w_lt {a b g : Nat} {nx : Nat → Nat} {fi : Nat → Bool} {sg on tw : Nat → Nat} {u : Nat → Nat} {t : Nat} : dz_w a b g nx fi sg on tw u t < 64 := dz_B_lt _ 6
theorem dz_u_lt {a len w t : Nat} (ha : a ≤ 3) : dz_u a len w t < 8 := Nat.lt_of_lt_of_le (Nat.mod_lt _ (Nat.two_pow_pos a)) (dz_p3 ha)
theorem dz_dig {a len w i : Nat} (ha1 : 1 ≤ a) (ha : a ≤ 3) (hl : a * len ≤ 12) (hi : i < len) (hw : w < 4096) : (Int32.ofNat w >>> ((Int32.ofNat a * (Int32.ofNat len - Int32.ofInt 1 - Int32.ofNat i)) &&& 31)) &&& (Int32.ofInt 1 <<< (Int32.ofNat a &&& 31) - Int32.ofInt 1) = Int32.ofNat (dz_u a len w i) := by
  have hm : a * (len - 1 - i) + a ≤ a * len := by
    have e : a * (len - 1 - i) + a = a * (len - 1 - i + 1) := rfl
    rw [e]
    exact Nat.mul_le_mul_left a (by omega)
  have hlen : len ≤ 12 := Nat.le_trans (Nat.le_mul_of_pos_left len (by omega)) hl
  have hp := Nat.two_pow_pos a
  have e1 : Int32.ofNat len - Int32.ofInt 1 - Int32.ofNat i = Int32.ofNat (len - 1 - i) := by
    rw [wi_s1 (by omega) (by omega), mr_sub (by omega) (by omega)]
  have e2 : Int32.ofInt 1 <<< (Int32.ofNat a &&& 31) - Int32.ofInt 1 = Int32.ofNat (2 ^ a - 1) := by
    rw [dz_sh1 a (by omega), wi_s1 hp (by have := dz_p3 ha; omega)]
  rw [e1, e2, ← Int32.ofNat_mul, dz_shw ⟨a * (len - 1 - i), by omega⟩ ⟨w, hw⟩, dz_an, Nat.and_two_pow_sub_one_eq_mod]
  rfl
/-- what a run of the design changes -/
def dz_Fs (I J : Nat → Nat → Int32) : Prop := ∀ c j, ¬ c = 491 → ¬ (501 ≤ c ∧ c ≤ 504) → J c j = I c j
theorem dz_Fs_t {I J K : Nat → Nat → Int32} (h : dz_Fs I J) (g : dz_Fs J K) : dz_Fs I K := fun c j a b => (g c j a b).trans (h c j a b)
theorem tw_M_s {a b g : Nat} {nx : Nat → Nat} {fi : Nat → Bool} {sg on tw : Nat → Nat} {I J : Nat → Nat → Int32} (h : tw_M a b g nx fi sg on tw I) (f : dz_Fs I J) : tw_M a b g nx fi sg on tw J := by
  obtain ⟨h1, h2, h3, h4, h5, h6⟩ := h
  exact ⟨(f _ _ (by omega) (by omega)).trans h1, (f _ _ (by omega) (by omega)).trans h2, (f _ _ (by omega) (by omega)).trans h3, fun i hi => ⟨(f _ _ (by omega) (by omega)).trans (h4 i hi).1, (f _ _ (by omega) (by omega)).trans (h4 i hi).2⟩, fun i hi => (f _ _ (by omega) (by omega)).trans (h5 i hi), fun i hi => ⟨(f _ _ (by omega) (by omega)).trans (h6 i hi).1, (f _ _ (by omega) (by omega)).trans (h6 i hi).2⟩⟩
/-- the first t cycles of a run in memory -/
def dz_R (a b g : Nat) (nx : Nat → Nat) (fi : Nat → Bool) (sg on tw : Nat → Nat) (u : Nat → Nat) (t : Nat) (I : Nat → Nat → Int32) : Prop := ∀ k, k < t → I 502 k = Int32.ofNat (u k) ∧ I 503 k = Int32.ofNat (dz_w a b g nx fi sg on tw u k) ∧ I 504 k = Int32.ofNat (dz_r a b g nx fi sg on tw u k) ∧ I 491 k = Int32.ofNat (dz_w a b g nx fi sg on tw u k)
def dz_l58 (pp len w l4 l5 : Nat) : List (Option Value) := [some (.ref 460), some (.int (Int32.ofNat pp)), some (.int (Int32.ofNat len)), some (.int (Int32.ofNat w)), some (.int (Int32.ofNat l4)), some (.int (Int32.ofNat l5)), none, none, none, none]
def dz_h458 (pp len w : Nat) (a b g : Nat) (nx : Nat → Nat) (fi : Nat → Bool) (sg on tw : Nat → Nat) (T : wv_T) (N : Nat) (I : Nat → Nat → Int32) (L : Nat → Nat → Int64) (R : Nat → Nat → Option Nat) : Nat → Option (Nat → wv_P) := fun pc =>
  if pc = 6 then some (fun mm lv st T1 N1 I1 L1 R1 nc ns => ∃ (i : Nat), lv = dz_l58 pp len w (dz_B fi i) i ∧ st = [] ∧ T1 = T ∧ N1 = N ∧ I1 = I ∧ L1 = L ∧ R1 = R ∧ nc = 0 ∧ ns = 0 ∧ i ≤ b ∧ mm = 200 - i)
  else if pc = 47 then some (fun mm lv st T1 N1 I1 L1 R1 nc ns => ∃ (i : Nat), lv = dz_l58 pp len w (dz_r a b g nx fi sg on tw (dz_u a len w) i) i ∧ st = [] ∧ T1 = T ∧ N1 = N ∧ L1 = L ∧ R1 = R ∧ nc = 0 ∧ ns = 0 ∧ i ≤ len ∧ dz_R a b g nx fi sg on tw (dz_u a len w) i I1 ∧ dz_Fs I I1 ∧ mm = 100 - i)
  else none
def dz_c458 : wv_c1 := fun as T N I L R q => ∃ (pp len w : Nat) (S : rn_N) (m0 x : Nat) (sq : List Nat) (a b g : Nat) (nx : Nat → Nat) (fi : Nat → Bool) (sg on tw : Nat → Nat), as = [.ref 460, .int (Int32.ofNat pp), .int (Int32.ofNat len), .int (Int32.ofNat w)] ∧ wm_T T ∧ pp < 2 ∧ kp_K I pp S m0 x sq ∧ mr_ok S m0 x ∧ dz_V a b g nx fi sg on tw ∧ tw_M a b g nx fi sg on tw I ∧ 0 < len ∧ a * len ≤ 12 ∧ w < 4096 ∧ ∀ J I1 L1 bb, dz_Fs I J → dz_R a b g nx fi sg on tw (dz_u a len w) len J → mr_Fw (wv_u J 460 49 (Int32.ofNat len)) I1 → mr_FL L L1 → mr_w S x (dz_w a b g nx fi sg on tw (dz_u a len w)) len bb → q (.inl (some (.int (wb_i bb)))) T N I1 L1 R 0 0
set_option maxRecDepth 100000 in
theorem wM_458 : ∃ cb ci np, pt_mt 458 = some (32, cb, 6, false, some .boolean, ci, np) := ⟨_, _, _, rfl⟩
set_option maxRecDepth 100000 in
set_option maxHeartbeats 4000000 in
theorem dz_fails {sc : pt_Sc} {d : Nat} : wv_C wm_fx sc (d + 1 + 1 + 1 + 1 + 1 + 1 + 1 + 1) 458 dz_c458 := by
  rintro as T N I L R q ⟨pp, len, w, S, m0, x, sq, a, b, g, nx, fi, sg, on, tw, rfl, hT, hp, hK, hok, hV, hM, h1, hal, hw, h⟩ w0 HR
  obtain ⟨cb, ci, np, hm⟩ := wM_458
  have hc459 : wv_C wm_fx sc (d + 1 + 1 + 1 + 1 + 1 + 1 + 1) 459 dz_c459 := wv_C_deep (by omega) (dz_mcycle (d := d))
  have hc461 : wv_C wm_fx sc (d + 1 + 1 + 1 + 1 + 1 + 1 + 1) 461 dz_c461 := wv_C_deep (by omega) (dz_nextState (d := d))
  have hc376 : wv_C wm_fx sc (d + 1 + 1 + 1 + 1 + 1 + 1 + 1) 376 mr_c376 := wv_C_deep (by omega) (mr_wordFails (d := d))
  refine wv_meth (hh := none) rfl (sp := wv_sp [(459, dz_c459), (461, dz_c461), (376, mr_c376)]) (hd := dz_h458 pp len w a b g nx fi sg on tw T N I L R) (n := 300) (n1 := 300) hm zc_458 rfl (wv_sp_ok (fun q hq => by
    rcases List.mem_cons.mp hq with h | h
    · rw [h]; exact hc459
    rcases List.mem_cons.mp h with h | h
    · rw [h]; exact hc461
    rw [List.mem_singleton.mp h]; exact hc376)) ?_ ?_ HR
  · exact ⟨200 - 0, 0, rfl, rfl, rfl, rfl, rfl, rfl, rfl, rfl, rfl, Nat.zero_le _, rfl⟩
  · intro pc P hP m lv st T1 N1 I1 L1 R1 nc ns hh
    obtain ⟨va1, va, vb, vg, vn, vs, vw⟩ := id hV
    have hlen : len ≤ 12 := Nat.le_trans (Nat.le_mul_of_pos_left len (by omega)) hal
    unfold dz_h458 at hP
    by_cases p6 : pc = 6
    · rw [if_pos p6] at hP
      cases hP
      subst p6
      obtain ⟨i, rfl, rfl, rfl, rfl, rfl, rfl, rfl, rfl, rfl, hi, rfl⟩ := hh
      have ei := wi_on (n := i) (by omega)
      have ein := wi_onn (n := i) (by omega)
      refine ⟨fun w1 => ?_, fun w1 => ?_⟩
      · have w1 : I1 460 57 ≤ Int32.ofNat i := w1
        rw [hM.2.1, wi_le, wi_on (by omega), ei] at w1
        have e : i = b := by omega
        subst e
        exact ⟨100 - 0, by omega, 0, rfl, rfl, rfl, rfl, rfl, rfl, rfl, rfl, Nat.zero_le _, fun k hk => by omega, fun _ _ _ _ => rfl, rfl⟩
      · have w1 : ¬ I1 460 57 ≤ Int32.ofNat i := w1
        rw [hM.2.1, wi_le, wi_on (by omega), ei] at w1
        refine ⟨2, _, Or.inl rfl, wm_t hT rfl, pp_b (c := 5) (by omega) (by omega), ?_⟩
        rw [ein, (hM.2.2.2.1 i (by omega)).2]
        refine ⟨fun w2 => ?_, fun w2 => ?_⟩
        · have e3 := wb_i_0.mp w2
          refine ⟨200 - (i + 1), by omega, i + 1, ?_, rfl, rfl, rfl, rfl, rfl, rfl, rfl, rfl, by omega, rfl⟩
          unfold dz_l58
          rw [← dz_or, e3, if_neg (by decide), ← wq_4s]
          rfl
        · have e3 := wb_i_1.mp w2
          refine ⟨200 - (i + 1), by omega, i + 1, ?_, rfl, rfl, rfl, rfl, rfl, rfl, rfl, rfl, by omega, rfl⟩
          unfold dz_l58
          rw [← dz_or, e3, if_pos rfl, ← dz_sh1 i (by omega), ← wq_4s]
          rfl
    rw [if_neg p6] at hP
    by_cases p47 : pc = 47
    · rw [if_pos p47] at hP
      cases hP
      subst p47
      obtain ⟨i, rfl, rfl, rfl, rfl, rfl, rfl, rfl, rfl, hi, hr, hF, rfl⟩ := hh
      have ei := wi_on (n := i) (by omega)
      have ein := wi_onn (n := i) (by omega)
      have M1 := tw_M_s hM hF
      refine ⟨fun w1 => ?_, fun w1 => ?_⟩
      · have w1 : Int32.ofNat len ≤ Int32.ofNat i := w1
        rw [wi_le, wi_on (by omega), ei] at w1
        have e : i = len := by omega
        subst e
        have hK1 : kp_K (wv_u I1 460 49 (Int32.ofNat i)) pp S m0 x sq := kp_K_F hK (fun c j c1 c2 => (wv_u_no _ _ (by omega)).trans (hF c j (by omega) (by omega)))
        refine ⟨S, m0, pp, x, i, sq, dz_w a b g nx fi sg on tw (dz_u a i w), rfl, hT, hp, hK1, hok, wv_u_at _ _ _ _, h1, by omega, fun k hk => ⟨?_, dz_w_lt⟩, fun I2 L2 bb f2 g2 hw2 => ?_⟩
        · rw [wv_u_no _ _ (by omega)]
          exact (hr k hk).2.2.2
        · have hq := h I1 I2 L2 bb hF hr f2 g2 hw2
          cases bb with
          | true => exact ⟨⟨rfl, rfl⟩, hq⟩
          | false => exact ⟨⟨rfl, rfl⟩, hq⟩
      · have w1 : ¬ Int32.ofNat len ≤ Int32.ofNat i := w1
        rw [wi_le, wi_on (by omega), ei] at w1
        have hd := dz_dig va1 va hal (i := i) (by omega) hw
        have hu8 := dz_u_lt (a := a) (len := len) (w := w) (t := i) va
        have hs32 := dz_r_lt (a := a) (g := g) (nx := nx) (fi := fi) (sg := sg) (on := on) (tw := tw) (u := dz_u a len w) vb i
        refine ⟨_, wm_t hT rfl, pp_b (c := 12) (by omega) (by omega), by decide, ?_⟩
        rw [M1.1, hd, ein]
        obtain ⟨J1, hJ1⟩ : ∃ J, J = wv_u I1 502 i (Int32.ofNat (dz_u a len w i)) := ⟨_, rfl⟩
        rw [← hJ1]
        refine ⟨_, wm_t hT rfl, pp_b (c := 12) (by omega) (by omega), by decide, ?_⟩
        rw [ein]
        obtain ⟨J2, hJ2⟩ : ∃ J, J = wv_u J1 504 i (Int32.ofNat (dz_r a b g nx fi sg on tw (dz_u a len w) i)) := ⟨_, rfl⟩
        rw [← hJ2]
        have FJ2 : dz_Fs I J2 := fun c j c1 c2 => by
          rw [hJ2, hJ1, wv_u_no _ _ (by omega), wv_u_no _ _ (by omega)]
          exact hF c j c1 c2
        have e502 : J2 502 i = Int32.ofNat (dz_u a len w i) := by
          rw [hJ2, hJ1, wv_u_no _ _ (by omega), wv_u_at]
        refine ⟨_, wm_t hT rfl, pp_b (c := 12) (by omega) (by omega), ?_⟩
        rw [ein, e502]
        refine ⟨dz_r a b g nx fi sg on tw (dz_u a len w) i, dz_u a len w i, a, b, g, nx, fi, sg, on, tw, rfl, hT, hV, tw_M_s hM FJ2, hs32, hu8, fun J3 f3 v3 => ?_⟩
        refine ⟨_, wm_t hT rfl, pp_b (c := 12) (by omega) (by omega), by decide, ?_⟩
        rw [ein]
        obtain ⟨J4, hJ4⟩ : ∃ J, J = wv_u J3 503 i (Int32.ofNat (dz_let a b g nx fi sg on tw (dz_r a b g nx fi sg on tw (dz_u a len w) i) (dz_u a len w i))) := ⟨_, rfl⟩
        rw [← hJ4]
        have e503 : J4 503 i = Int32.ofNat (dz_w a b g nx fi sg on tw (dz_u a len w) i) := by
          rw [hJ4, wv_u_at]
          rfl
        refine ⟨_, wm_t hT rfl, pp_b (c := 12) (by omega) (by omega), ?_⟩
        rw [ein, e503]
        refine ⟨_, wm_t hT rfl, pp_b (c := 24) (by omega) (by omega), by decide, ?_⟩
        rw [ein]
        obtain ⟨J5, hJ5⟩ : ∃ J, J = wv_u J4 491 i (Int32.ofNat (dz_w a b g nx fi sg on tw (dz_u a len w) i)) := ⟨_, rfl⟩
        rw [← hJ5]
        have F5 : dz_Fs I J5 := fun c j c1 c2 => by
          rw [hJ5, hJ4, wv_u_no _ _ (by omega), wv_u_no _ _ (by omega), f3 c j (by omega)]
          exact FJ2 c j c1 c2
        have M5 := tw_M_s hM F5
        have v5 : ∀ v, v < 1 + a + b + g → J5 501 v = wb_i (dz_n a b on tw (dz_r a b g nx fi sg on tw (dz_u a len w) i) (dz_u a len w i) g v) := fun v hv => by
          rw [hJ5, hJ4, wv_u_no _ _ (by omega), wv_u_no _ _ (by omega)]
          exact v3 v hv
        refine ⟨1 + a + b + g, b, nx, dz_n a b on tw (dz_r a b g nx fi sg on tw (dz_u a len w) i) (dz_u a len w i) g, rfl, hT, M5.2.1, vb, by omega, fun k hk => ⟨(M5.2.2.2.1 k hk).1, vn k hk⟩, v5, ?_⟩
        refine ⟨100 - (i + 1), by omega, i + 1, ?_, rfl, rfl, rfl, rfl, rfl, rfl, rfl, by omega, fun k hk => ?_, F5, rfl⟩
        · unfold dz_l58
          rw [← wq_4s]
          rfl
        · by_cases e : k = i
          · subst e
            refine ⟨?_, ?_, ?_, ?_⟩
            · rw [hJ5, wv_u_no _ _ (by omega), hJ4, wv_u_no _ _ (by omega), f3 _ _ (by omega)]
              exact e502
            · rw [hJ5, wv_u_no _ _ (by omega)]
              exact e503
            · rw [hJ5, wv_u_no _ _ (by omega), hJ4, wv_u_no _ _ (by omega), f3 _ _ (by omega), hJ2, wv_u_at]
            · rw [hJ5, wv_u_at]
          · have ek : ∀ c, (c = 502 ∨ c = 503 ∨ c = 504 ∨ c = 491) → J5 c k = I1 c k := fun c hc => by
              rw [hJ5, wv_u_no _ _ (fun y => e y.2), hJ4, wv_u_no _ _ (fun y => e y.2), f3 _ _ (by omega), hJ2, wv_u_no _ _ (fun y => e y.2), hJ1, wv_u_no _ _ (fun y => e y.2)]
            rw [ek 502 (by omega), ek 503 (by omega), ek 504 (by omega), ek 491 (by omega)]
            exact hr k (by omega)
    rw [if_neg p47] at hP
    cases hP
