/-! ===== the law: letter ===== -/
def wl_c172 : wv_c1 := fun as T N I L R q => ∃ (c : Int32) (n : Nat) (v : Nat → Nat) (C : Nat → Nat) (P : Nat → pd_P) (S : Nat → rn_N) (sq : Nat → List Nat), as = [.ref 0, .int c, .ref 536] ∧ T 536 = some (.inr (1, 1)) ∧ wm_T T ∧ (∃ k1, T 27 = some (.inr (k1 + 4, 2))) ∧ (∃ k2, T 342 = some (.inr (k2 + 4, 2))) ∧ (∀ p, p < 2 → R 342 p = some (343 + p)) ∧ I 0 16 = Int32.ofNat n ∧ n ≤ 24 ∧ (∀ p, p < 2 → sc_Q T I L R (C p) (P p) (S p) (sq p) p n v) ∧ (¬ (0 ≤ c.toInt ∧ c.toInt < 64) → q (.inl (some (.int 1))) T N I L R 1 6) ∧ (0 ≤ c.toInt ∧ c.toInt < 64 → n = 24 → q (.inl (some (.int 2))) T N I L R 1 6) ∧ ∀ a : Nat, c = Int32.ofNat a → a < 64 → n < 24 → ∀ I1 L1, sc_FI n I I1 → I1 341 n = c → (∀ j, j < 2 → sc_dn I I1 L1 (C j) (P j) j n (mr_v v n a)) → (∀ d k, ¬ (343 ≤ d ∧ d < 345) → L1 d k = L d k) → q (.inl (some (.int 0))) T N (wv_u I1 0 16 (Int32.ofNat (n + 1))) (wv_u L1 536 0 (sc_lo I1 2).toInt64) R 0 0
set_option maxRecDepth 100000 in
theorem wM_172 : ∃ cb ci np, pt_mt 172 = some (0, cb, 4, false, some .int, ci, np) := ⟨_, _, _, rfl⟩
set_option maxRecDepth 100000 in
theorem wl_172 : wl_ok 172 4 [(0, 1), (1, 2)] = true := by decide +kernel
set_option maxRecDepth 100000 in
set_option maxHeartbeats 4000000 in
theorem wl_letter {sc : pt_Sc} {d : Nat} : wv_C wm_fx sc (d + 1 + 1 + 1 + 1 + 1 + 1) 172 wl_c172 := by
  rintro as T N I L R q ⟨c, n, v, C, P, S, sq, rfl, h537, hT, t27, t342, h342, h16, hn, hQ, hbad, hfull, h⟩ w0 HR
  obtain ⟨cb, ci, np, hm⟩ := wM_172
  have hc173 : wv_C wm_fx sc (d + 1 + 1 + 1 + 1 + 1) 173 sc_c173 := wv_C_deep (by omega) (sc_letter (d := d))
  refine wv_meth (hh := some (wl_f 4 [(0, 1), (1, 2)])) rfl (sp := wv_sp [(173, sc_c173)]) (hd := fun _ => none) (n := 0) (n1 := 300) hm zc_172 (wl_HH hm wl_172) (wv_sp_ok (fun q hq => by rw [List.mem_singleton.mp hq]; exact hc173)) ?_ (fun pc P h => by cases h) HR
  refine ⟨c, n, v, C, P, S, sq, rfl, hT, t27, t342, h342, h16, hn, hQ, fun z => ⟨Or.inl rfl, hbad z⟩, fun z z2 => ⟨Or.inl rfl, hfull z z2⟩, fun a a1 a2 a3 I1 L1 g1 g2 g3 g4 => ?_⟩
  exact ⟨_, h537, ⟨by decide, by decide⟩, by decide, h a a1 a2 a3 I1 L1 g1 g2 g3 g4⟩
/-- the arrays of sequences lie behind the fixed cells -/
def sc_o (R : Nat → Nat → Option Nat) (C : Nat) : Prop := ∀ k, k < 67 → ∀ B, R (C + 9 + k) 0 = some B → 536 ≤ B
theorem sc_E_L4 {T : wv_T} {I : Nat → Nat → Int32} {L L1 : Nat → Nat → Int64} {R : Nat → Nat → Option Nat} {C : Nat} {P : pd_P} {S : rn_N} {sq : List Nat} {B b len : Nat} (h : sc_E T I L R C P S sq B b len) (ho : sc_o R C) (h537 : T 536 = some (.inr (1, 1))) (g : ∀ c j, 536 ≤ c → ¬ c = 536 → L1 c j = L c j) (g2 : ∀ c j, C ≤ c → c ≤ C + 75 → L1 c j = L c j) : sc_E T I L1 R C P S sq B b len := by
  obtain ⟨h1, h2, ⟨⟨a1, a2, a3⟩, h3⟩, h4, h5, h6, h7⟩ := h
  refine ⟨h1, pq_M_c h2 (fun _ _ _ => rfl) (fun c j hc => g2 c j (by omega) (by omega)), ⟨⟨a1, fun k y hk => ?_, a3⟩, h3⟩, h4, h5, h6, h7⟩
  obtain ⟨y1, g0, d, n⟩ := a2 k y hk
  have hk67 : k < 67 := by
    have := (List.getElem?_eq_some_iff.mp hk).1
    omega
  obtain ⟨d1, d2, d3, d4, d5, d6, d7, d8, B3, len2, e1, e2, e3, e4⟩ := d
  have hB3 := ho k hk67 B3 e1
  have hne : ¬ B3 = 536 := fun z => by
    rw [z, h537] at e2
    have e2 : (1, 1) = (1, len2) := by simpa using e2
    have : 1 = len2 := congrArg Prod.snd e2
    omega
  refine ⟨y1, g0, ⟨d1, d2, d3, d4, d5, d6, fun t ht => ?_, fun t ht => ?_, B3, len2, e1, e2, e3, fun s v t hs hv hg ht => ?_⟩, n⟩
  · rw [g2 _ _ (by omega) (by omega)]
    exact d7 t ht
  · rw [g2 _ _ (by omega) (by omega)]
    exact d8 t ht
  · rw [g _ _ hB3 hne]
    exact e4 s v t hs hv hg ht
/-- both objects' words of property p -/
def lt2_1 (T : wv_T) (I : Nat → Nat → Int32) (L : Nat → Nat → Int64) (R : Nat → Nat → Option Nat) (p n : Nat) (v : Nat → Nat) (C : Nat) (P : pd_P) (S : rn_N) (m0 x : Nat) (sq : List Nat) : Prop := sc_Q T I L R C P S sq p n v ∧ sc_o R C ∧ kp_K I p S m0 x sq ∧ mr_ok S m0 x ∧ sc_R P S x ∧ sc_Z S ∧ I 345 p = I 490 p ∧ 0 ≤ (I 490 p).toInt ∧ (0 < n → I 490 p = 0 → sc_no P v (sc_W L (343 + p) 0) n)
def lt2_A (T : wv_T) (I : Nat → Nat → Int32) (L : Nat → Nat → Int64) (R : Nat → Nat → Option Nat) (n : Nat) (v : Nat → Nat) (C : Nat → Nat) (P : Nat → pd_P) (S : Nat → rn_N) (m0 x : Nat → Nat) (sq : Nat → List Nat) : Prop := (T 536 = some (.inr (1, 1)) ∧ wm_T T ∧ (∃ k1, T 27 = some (.inr (k1 + 4, 2))) ∧ (∃ k2, T 342 = some (.inr (k2 + 4, 2))) ∧ ∀ p, p < 2 → R 342 p = some (343 + p)) ∧ (I 0 16 = Int32.ofNat n ∧ I 460 46 = Int32.ofNat n ∧ n ≤ 24 ∧ ∀ k, k < n → I 341 k = Int32.ofNat (v k) ∧ I 489 k = Int32.ofNat (v k) ∧ v k < 64) ∧ ∀ p, p < 2 → lt2_1 T I L R p n v (C p) (P p) (S p) (m0 p) (x p) (sq p)
/-- what a letter changes -/
def lt2_F (I J : Nat → Nat → Int32) : Prop := ∀ c j, ¬ c = 341 → ¬ c = 345 → ¬ (c = 0 ∧ j = 16) → ¬ (469 ≤ c ∧ c ≤ 475) → ¬ (489 ≤ c ∧ c ≤ 491) → ¬ c = 495 → ¬ (c = 460 ∧ (j = 0 ∨ j = 32 ∨ (37 ≤ j ∧ j ≤ 39) ∨ j = 46 ∨ j = 49)) → J c j = I c j
def lt2_L (L M : Nat → Nat → Int64) : Prop := ∀ c j, ¬ (343 ≤ c ∧ c ≤ 344) → ¬ (492 ≤ c ∧ c ≤ 494) → ¬ c = 536 → ¬ (c = 460 ∧ (j = 53 ∨ j = 54)) → M c j = L c j
theorem lt2_lo {I J : Nat → Nat → Int32} (h0 : I 345 0 = J 490 0) (h1 : I 345 1 = J 490 1) (p0 : 0 ≤ (J 490 0).toInt) (p1 : 0 ≤ (J 490 1).toInt) : sc_lo I 2 = mr_lo J := by
  have key : ∀ z : Int32, 0 ≤ z.toInt → (0 < z ↔ ¬ z = 0) := fun z hz => by
    rw [wi_lt, wi_0, wi_eq, wi_0]
    omega
  unfold sc_lo mr_lo
  rw [h0, h1]
  by_cases c0 : J 490 0 = 0
  · rw [if_neg (fun z => z.2 c0), if_neg (fun z => (key _ p0).mp z c0)]
    by_cases c1 : J 490 1 = 0
    · rw [if_neg (fun z => z.2 c1), if_neg (fun z => (key _ p1).mp z c1)]
      rfl
    · rw [if_pos ⟨by omega, c1⟩, if_pos ((key _ p1).mpr c1)]
      rfl
  · rw [if_pos ⟨by omega, c0⟩, if_pos ((key _ p0).mpr c0)]
    by_cases c1 : J 490 1 = 0
    · rw [if_neg (fun z => z.2 c1), if_neg (fun z => (key _ p1).mp z c1)]
      rfl
    · rw [if_pos ⟨by omega, c1⟩, if_pos ((key _ p1).mpr c1)]
      rfl
/-- one property, behind a letter -/
theorem lt2_step {T : wv_T} {I I1 I2 : Nat → Nat → Int32} {L L1 L2 : Nat → Nat → Int64} {R : Nat → Nat → Option Nat} {p n a : Nat} {v : Nat → Nat} {C : Nat} {P : pd_P} {S : rn_N} {m0 x : Nat} {sq : List Nat} {b : Bool} (h537 : T 536 = some (.inr (1, 1))) (hp : p < 2) (hn : n < 24) (ha : a < 64) (hv : ∀ k, k < n → v k < 64) (h : lt2_1 T I L R p n v C P S m0 x sq) (hF : lt2_F I I2) (hL : lt2_L L L2) (hdn : sc_dn I I1 L1 C P p n (mr_v v n a)) (e2 : I2 345 p = I1 345 p) (eL : ∀ k, L2 (343 + p) k = L1 (343 + p) k) (h90 : I2 490 p = mr_90 I p n b) (hw : I 490 p = 0 → mr_w S x (mr_v v n a) (n + 1) b) : lt2_1 T I2 L2 R p (n + 1) (mr_v v n a) C P S m0 x sq := by
  obtain ⟨⟨hR27, hC, hE, hm, hRk, hM⟩, hso, hK, hok, hR, hZ, h45, hpos, hno⟩ := h
  have eI : I2 (C + 1) = I (C + 1) := funext (fun j => hF _ _ (by omega) (by omega) (by omega) (by omega) (by omega) (by omega) (by omega))
  have hE2 : sc_E T I2 L2 R C P S sq (343 + p) 0 1918 := sc_E_L4 (sc_E_I hE (fun c j c1 c2 => hF _ _ (by omega) (by omega) (by omega) (by omega) (by omega) (by omega) (by omega))) hso h537 (fun c j c1 c2 => hL _ _ (by omega) (by omega) c2 (by omega)) (fun c j c1 c2 => hL _ _ (by omega) (by omega) (by omega) (by omega))
  have eLf : L2 (343 + p) = L1 (343 + p) := funext eL
  obtain ⟨f, f1, f2, f3⟩ := hdn
  have ag : I 490 p = 0 → f = b ∧ (b = false → sc_no P (mr_v v n a) (sc_W L1 (343 + p) 0) (n + 1)) := fun z => sc_agree hR hok.2.2.2.1 hok.2.2.2.2.1 hZ hn hv ha (fun n0 => ⟨(hM n0).1, hno n0 z⟩) f3.1 f2 (hw z)
  have e45 : I2 345 p = I2 490 p := by
    rw [e2, f1, h90]
    unfold sc_45 mr_90
    rw [h45]
    by_cases z : I 490 p = 0
    · rw [if_pos z, if_pos z, (ag z).1]
    · rw [if_neg z, if_neg z]
  refine ⟨⟨hR27, hC, hE2, hm, hRk, fun _ => ?_⟩, hso, kp_K_F hK (fun c j c1 c2 => hF _ _ (by omega) (by omega) (by omega) (by omega) (by omega) (by omega) (by omega)), hok, hR, hZ, e45, ?_, fun _ z => ?_⟩
  · rw [eI]
    exact sc_M_L eL f3
  · rw [h90]
    unfold mr_90
    split
    · split
      · rw [wi_on (by omega)]
        omega
      · decide
    · exact hpos
  · rw [h90] at z
    unfold mr_90 at z
    have e : sc_W L2 (343 + p) 0 = sc_W L1 (343 + p) 0 := by
      unfold sc_W
      rw [eLf]
    rw [e]
    by_cases c : I 490 p = 0
    · rw [if_pos c] at z
      refine (ag c).2 ?_
      cases b with
      | false => rfl
      | true =>
        rw [if_pos rfl] at z
        have := wi_eq.mp z
        rw [wi_on (by omega), wi_0] at this
        omega
    · rw [if_neg c] at z
      exact (c z).elim
def wL_3 (Rel : wv_T → Nat → (Nat → Nat → Int32) → (Nat → Nat → Int64) → (Nat → Nat → Option Nat) → Nat → Nat → Nat → Prop) : Prop := ∀ T N I L R nc ns i, i ≤ 2044 → Rel T N I L R nc ns i → ∃ (n : Nat) (v : Nat → Nat) (C : Nat → Nat) (P : Nat → pd_P) (S : Nat → rn_N) (m0 x : Nat → Nat) (sq : Nat → List Nat), lt2_A T I L R n v C P S m0 x sq ∧ Rel T N (wv_u I 460 0 1) L R (nc + 1) (ns + 6) (i + 4) ∧ Rel T N (wv_u I 460 0 2) L R (nc + 1) (ns + 6) (i + 4) ∧ ∀ a I2 L2, a < 64 → n < 24 → lt2_A T I2 L2 R (n + 1) (mr_v v n a) C P S m0 x sq → lt2_F I I2 → I2 460 0 = 0 → lt2_L L L2 → Rel T N I2 L2 R nc ns (i + 4)
set_option maxRecDepth 100000 in
set_option maxHeartbeats 4000000 in
theorem wL_case3 {Rel : wv_T → Nat → (Nat → Nat → Int32) → (Nat → Nat → Int64) → (Nat → Nat → Option Nat) → Nat → Nat → Nat → Prop} {xs : Nat → Int32} {Lg : Nat} {fv : Value} {q : wv_Q} {sp : wv_K} (hLg : Lg ≤ 2048) (H : wL_3 Rel)
    (s172 : ∀ as T N I L R q, wl_c172 as T N I L R q → sp 172 as T N I L R q) (s375 : ∀ as T N I L R q, mr_c375 as T N I L R q → sp 375 as T N I L R q) (s343 : ∀ as T N I L R q, wp_c343 as T N I L R q → sp 343 as T N I L R q) :
    ∀ m lv st T N I L R nc ns, wL_P Rel xs Lg (some 3) m lv st T N I L R nc ns → wv_S wm_fx fv none sp 0 7 false (some .boolean) zt_0 q (wv wm_fx fv none sp 0 7 false (some .boolean) zt_0 (wv_h2 (wL_hd Rel xs Lg) m) q 100) (zk_at zt_0 304) lv st T N I L R nc ns := by
  rintro m lv st T N I L R nc ns ⟨i, x5, x6, rfl, rfl, hT, hx, hR, hi, hm, hop⟩
  obtain ⟨n, v, C, P, S, m0, x, sq, ⟨⟨h537, hwT, t27, t342, h342⟩, ⟨h16, h46, hn, hv⟩, h1⟩, r1, r2, r3⟩ := H T N I L R nc ns i (by omega) hR
  have e1 : I 1099511627776 (Int32.ofNat i + Int32.ofInt 1).toNatClampNeg = xs (i + 1) := (wL_x (k := 1) hx hLg hi (by omega)).1
  have b1 : 0 ≤ Int32.ofNat i + Int32.ofInt 1 ∧ (Int32.ofNat i + Int32.ofInt 1).toInt < Lg := (wL_x (k := 1) hx hLg hi (by omega)).2
  have n10 : ¬ (1 : Int32) = 0 := by decide
  have n20 : ¬ (2 : Int32) = 0 := by decide
  have e63 : ((Int8.ofInt 63).toInt32).toInt = 63 := rfl
  have bad : (xs (i + 1) < 0 ∨ (Int8.ofInt 63).toInt32 < xs (i + 1)) ↔ ¬ (0 ≤ (xs (i + 1)).toInt ∧ (xs (i + 1)).toInt < 64) := by
    rw [wi_lt, wi_lt, wi_0, e63]
    omega
  refine ⟨_, hT, b1, ?_⟩
  rw [e1]
  refine s172 _ _ _ _ _ _ _ ⟨_, n, v, C, P, S, sq, rfl, h537, hwT, t27, t342, h342, h16, hn, fun p hp => (h1 p hp).1, fun hb => ?_, fun hb h24 => ?_, fun a ha1 ha2 hn24 I1 L1 g1 g2 g3 g4 => ?_⟩
  · refine ⟨_, hT, b1, ?_⟩
    rw [e1]
    refine s375 _ _ _ _ _ _ _ ⟨_, n, v, S, m0, x, sq, rfl, hwT, h46, hn, fun k hk => (hv k hk).2, fun p hp => ⟨(h1 p hp).2.2.1, (h1 p hp).2.2.2.1⟩, fun z => ?_, fun z => (z (bad.mpr hb)).elim, fun a ha1 ha2 => ?_⟩
    · refine s343 _ _ _ _ _ _ _ ⟨rfl, ?_⟩
      refine ⟨fun _ => ?_, fun h => (h (wv_u_at _ _ _ _)).elim⟩
      refine ⟨fun _ => ?_, fun h => (h n10).elim⟩
      exact wL_fin hLg hi hm hx hT (fun j => wv_u_no _ _ (by omega)) r1
    · rw [ha1, wi_on (by omega)] at hb
      omega
  · refine ⟨_, hT, b1, ?_⟩
    rw [e1]
    refine s375 _ _ _ _ _ _ _ ⟨_, n, v, S, m0, x, sq, rfl, hwT, h46, hn, fun k hk => (hv k hk).2, fun p hp => ⟨(h1 p hp).2.2.1, (h1 p hp).2.2.2.1⟩, fun z => (bad.mp z hb).elim, fun _ _ => ?_, fun a ha1 ha2 z => by omega⟩
    refine s343 _ _ _ _ _ _ _ ⟨rfl, ?_⟩
    refine ⟨fun _ => ?_, fun h => (h (wv_u_at _ _ _ _)).elim⟩
    refine ⟨fun _ => ?_, fun h => (h n20).elim⟩
    exact wL_fin hLg hi hm hx hT (fun j => wv_u_no _ _ (by omega)) r2
  · have q46 : wv_u I1 0 16 (Int32.ofNat (n + 1)) 460 46 = Int32.ofNat n := by
      rw [wv_u_no _ _ (by omega), g1 _ _ (by omega) (by omega)]
      exact h46
    have sm : ∀ c j, 460 ≤ c → wv_u I1 0 16 (Int32.ofNat (n + 1)) c j = I c j := fun c j hc => by
      rw [wv_u_no _ _ (by omega), g1 _ _ (by omega) (by omega)]
    have hgood : ¬ (xs (i + 1) < 0 ∨ (Int8.ofInt 63).toInt32 < xs (i + 1)) := fun z => by
      have := bad.mp z
      rw [ha1, wi_on (by omega)] at this
      omega
    refine ⟨_, hT, ?_, ?_⟩
    · exact b1
    rw [sm _ _ (by omega), e1]
    refine s375 _ _ _ _ _ _ _ ⟨_, n, v, S, m0, x, sq, rfl, hwT, q46, hn, fun k hk => ?_, fun p hp => ⟨kp_K_F (h1 p hp).2.2.1 (fun c j c1 c2 => sm c j (by omega)), (h1 p hp).2.2.2.1⟩, fun z => (hgood z).elim, fun _ z => by omega, fun a2 hb1 hb2 _ I2 L2 k1 k2 k3 k4 k5 k6 => ?_⟩
    · rw [sm _ _ (by omega)]
      exact (hv k hk).2
    have ea : a2 = a := by
      have := congrArg Int32.toInt (hb1.symm.trans ha1)
      rw [wi_on (by omega), wi_on (by omega)] at this
      omega
    subst ea
    have hF : lt2_F I I2 := fun c j c1 c2 c3 c4 c5 c6 c7 => by
      rw [k1 c j c4 c5 c6 c7, wv_u_no _ _ c3, g1 c j (by omega) c2]
    have hL : lt2_L L L2 := fun c j c1 c2 c3 c4 => by
      rw [k2 c j (by omega) (by omega) (by omega) c4, wv_u_no _ _ (by omega), g4 c j (by omega)]
    have e345 : ∀ j, I2 345 j = I1 345 j := fun j => by
      rw [k1 _ _ (by omega) (by omega) (by omega) (by omega), wv_u_no _ _ (by omega)]
    have new : ∀ p, p < 2 → lt2_1 T I2 L2 R p (n + 1) (mr_v v n a2) (C p) (P p) (S p) (m0 p) (x p) (sq p) := fun p hp => by
      obtain ⟨b, kb1, kb2⟩ := k6 p hp
      have e90 : wv_u I1 0 16 (Int32.ofNat (n + 1)) 490 p = I 490 p := sm _ _ (by omega)
      refine lt2_step h537 hp hn24 ha2 (fun k hk => (hv k hk).2.2) (h1 p hp) hF hL (g3 p hp) (e345 p) (fun k => ?_) (b := b) ?_ (fun z => kb2 (by rw [e90]; exact z))
      · rw [k2 _ _ (by omega) (by omega) (by omega) (by omega), wv_u_no _ _ (by omega)]
      · rw [kb1]
        unfold mr_90
        rw [e90]
    have A2 : lt2_A T I2 L2 R (n + 1) (mr_v v n a2) C P S m0 x sq := by
      refine ⟨⟨h537, hwT, t27, t342, h342⟩, ⟨?_, k4, by omega, fun k hk => ?_⟩, new⟩
      · rw [k1 _ _ (by omega) (by omega) (by omega) (by omega), wv_u_at]
      · refine ⟨?_, k5 k hk, ?_⟩
        · rw [k1 _ _ (by omega) (by omega) (by omega) (by omega), wv_u_no _ _ (by omega)]
          unfold mr_v
          by_cases e : k = n
          · subst e
            rw [if_pos rfl, g2]
            exact ha1
          · rw [if_neg e, g1 _ _ (by omega) (by omega)]
            exact (hv k (by omega)).1
        · unfold mr_v
          split
          · exact ha2
          · exact (hv k (by omega)).2.2
    have lo : sc_lo I1 2 = mr_lo I2 := lt2_lo ((e345 0).symm.trans (new 0 (by omega)).2.2.2.2.2.2.1) ((e345 1).symm.trans (new 1 (by omega)).2.2.2.2.2.2.1) (new 0 (by omega)).2.2.2.2.2.2.2.1 (new 1 (by omega)).2.2.2.2.2.2.2.1
    have e537 : L2 536 0 = (sc_lo I1 2).toInt64 := by
      rw [k2 _ _ (by omega) (by omega) (by omega) (by omega), wv_u_at]
    have fin := wL_fin (c1 := nc) (s1 := ns) (Rel := Rel) (I1 := I2) (L1 := L2) (y5 := some (.int 0)) (y6 := some (.int (mr_lo I2))) hLg hi hm hx hT (fun j => hF _ _ (by omega) (by omega) (by omega) (by omega) (by omega) (by omega) (by omega)) (r3 a2 I2 L2 ha2 hn24 A2 hF k3 hL)
    refine s343 _ _ _ _ _ _ _ ⟨rfl, ?_⟩
    rw [k3]
    refine ⟨fun _ => ?_, fun h => (h rfl).elim⟩
    refine ⟨fun h => (h rfl).elim, fun _ => ?_⟩
    refine ⟨_, h537, ⟨by decide, by decide⟩, ?_⟩
    refine ⟨fun _ => ?_, fun h => (h ?_).elim⟩
    · exact fin
    · refine lg_cmp_0.mpr ?_
      exact e537.trans (congrArg Int32.toInt64 lo)
