/-! ===== the class: a letter ===== -/
theorem sc_x_v {A : nt_A} {v v2 : Nat → Nat} {U : Nat → Prop} {n : Nat} {X : Int64} (h : ∀ i, i < n → v i = v2 i) (g : sc_x A v U n X) : sc_x A v2 U n X := by
  have hw : ∀ k, k < n → pd_w v k = pd_w v2 k := fun k hk => by
    unfold pd_w
    rw [h k hk]
  intro t ht
  rw [g t ht]
  constructor
  · rintro ⟨i, a, b, c⟩
    exact ⟨i, a, b, (nz_s_w (fun k _ hk => hw k (by omega))).mp c⟩
  · rintro ⟨i, a, b, c⟩
    exact ⟨i, a, b, (nz_s_w (fun k _ hk => hw k (by omega))).mpr c⟩
theorem sc_li_v {A : nt_A} {v v2 : Nat → Nat} {i n : Nat} (h : ∀ i, i < n → v i = v2 i) (hi : i ≤ n) (g : sc_li A v i n) : sc_li A v2 i n := by
  have hw : ∀ k, k < n → pd_w v k = pd_w v2 k := fun k hk => by
    unfold pd_w
    rw [h k hk]
  obtain ⟨g1, u, g2⟩ := g
  exact ⟨fun j j1 j2 z => g1 j j1 j2 ((nt_a_w (fun k _ hk => hw k (by omega))).mpr z), u, (nz_s_w (fun k _ hk => hw k (by omega))).mp g2⟩
theorem sc_X_v {P : pd_P} {v v2 : Nat → Nat} {W : Nat → Nat → Prop} {s n : Nat} {X : Int64} {sl : Nat → Int64} (h : ∀ i, i < n → v i = v2 i) (g : sc_X P v W s n X sl) : sc_X P v2 W s n X sl := by
  obtain ⟨g1, g2, g3, g4⟩ := g
  have hw : ∀ k, k < n → pd_w v k = pd_w v2 k := fun k hk => by
    unfold pd_w
    rw [h k hk]
  have op : sc_op P v W s n ↔ sc_op P v2 W s n := by
    unfold sc_op
    constructor
    · rintro ⟨i, a, b, c⟩
      exact ⟨i, a, b, fun u u1 u2 => by rw [← h u u2]; exact c u u1 u2⟩
    · rintro ⟨i, a, b, c⟩
      exact ⟨i, a, b, fun u u1 u2 => by rw [h u u2]; exact c u u1 u2⟩
  refine ⟨fun k => sc_x_v h (g1 k), fun k => sc_x_v h (g2 k), fun k => ?_, fun k => ?_⟩
  · rw [← op]
    exact g3 k
  · obtain ⟨c, c1, c2, ts, t1, t2, t3, t4⟩ := g4 k
    refine ⟨c, c1, c2, ts, t1, t2, fun i => (t3 i).trans ⟨fun z => ⟨z.1, z.2.1, sc_li_v h (by omega) z.2.2⟩, fun z => ⟨z.1, z.2.1, sc_li_v (fun i hi => (h i hi).symm) (by omega) z.2.2⟩⟩, fun j i hj t ht => ?_⟩
    rw [t4 j i hj t ht]
    have hi := ((t3 i).mp (List.mem_of_getElem? hj)).1
    exact nz_s_w (fun k _ hk => hw k (by omega))
theorem sc_M_v {P : pd_P} {v v2 : Nat → Nat} {k : Nat → Int32} {B b n : Nat} {L : Nat → Nat → Int64} (h : ∀ i, i < n → v i = v2 i) (g : sc_M P v k B b n 0 L) : sc_M P v2 k B b n 0 L := by
  refine ⟨sc_J_v h g.1, fun s hs => ?_⟩
  have g2 := g.2 s hs
  rw [if_neg (by omega)] at g2 ⊢
  exact sc_X_v h g2
theorem sc_M_L {P : pd_P} {v : Nat → Nat} {k : Nat → Int32} {B b n p : Nat} {L L1 : Nat → Nat → Int64} (h : ∀ j, L1 B j = L B j) (g : sc_M P v k B b n p L) : sc_M P v k B b n p L1 := by
  have e : L1 B = L B := funext h
  unfold sc_M sc_W at g ⊢
  rw [e]
  exact g
theorem sc_E_L2 {T : wv_T} {I : Nat → Nat → Int32} {L L1 : Nat → Nat → Int64} {R : Nat → Nat → Option Nat} {C : Nat} {P : pd_P} {S : rn_N} {sq : List Nat} {B b len B2 : Nat} (h : sc_E T I L R C P S sq B b len) (hB2 : sc_h R C B2) (g : ∀ c j, ¬ c = B2 → L1 c j = L c j) : sc_E T I L1 R C P S sq B b len := by
  obtain ⟨h1, h2, ⟨⟨a1, a2, a3⟩, h3⟩, h4, h5, h6, h7⟩ := h
  refine ⟨h1, pq_M_c h2 (fun _ _ _ => rfl) (fun c j hc => g c j ?_), ⟨⟨a1, fun k y hk => ?_, a3⟩, h3⟩, h4, h5, h6, h7⟩
  · obtain ⟨q1, q2, _⟩ := hB2
    rcases hc with e | e
    · rw [e]
      exact fun z => q1 z.symm
    · rw [e]
      exact fun z => q2 z.symm
  · obtain ⟨y1, g0, d, n⟩ := a2 k y hk
    have hk67 : k < 67 := by
      have := (List.getElem?_eq_some_iff.mp hk).1
      omega
    obtain ⟨q1, q2⟩ := hB2.2.2 k hk67
    obtain ⟨d1, d2, d3, d4, d5, d6, d7, d8, B3, len2, e1, e2, e3, e4⟩ := d
    refine ⟨y1, g0, ⟨d1, d2, d3, d4, d5, d6, fun t ht => ?_, fun t ht => ?_, B3, len2, e1, e2, e3, fun s v t hs hv hg ht => ?_⟩, n⟩
    · rw [g _ _ (fun z => q1 z.symm)]
      exact d7 t ht
    · rw [g _ _ (fun z => q1 z.symm)]
      exact d8 t ht
    · rw [g _ _ (fun z => q2 (by rw [e1, z]))]
      exact e4 s v t hs hv hg ht
theorem sc_E_I {T : wv_T} {I J : Nat → Nat → Int32} {L : Nat → Nat → Int64} {R : Nat → Nat → Option Nat} {C : Nat} {P : pd_P} {S : rn_N} {sq : List Nat} {B b len : Nat} (h : sc_E T I L R C P S sq B b len) (g : ∀ c j, C ≤ c → c ≤ C + 75 → J c j = I c j) : sc_E T J L R C P S sq B b len := by
  obtain ⟨h1, h2, ⟨⟨a1, a2, a3⟩, h3⟩, ⟨h4, h4b⟩, h5, h6, h7⟩ := h
  have e1 : J (C + 1) = I (C + 1) := funext (fun j => g _ _ (by omega) (by omega))
  refine ⟨h1, pq_M_c h2 (fun c j hc => g c j (by omega) (by omega)) (fun _ _ _ => rfl), ⟨⟨by rw [g _ _ (by omega) (by omega)]; exact a1, fun k y hk => ?_, a3⟩, h3⟩, ⟨fun i hi hk => ?_, ?_⟩, ?_, h6, h7⟩
  · obtain ⟨y1, g0, d, n⟩ := a2 k y hk
    have hk67 : k < 67 := by
      have := (List.getElem?_eq_some_iff.mp hk).1
      omega
    obtain ⟨d1, d2, d3, d4, d5⟩ := d
    exact ⟨y1, g0, ⟨d1, by rw [g _ _ (by omega) (by omega)]; exact d2, by rw [g _ _ (by omega) (by omega)]; exact d3, by rw [g _ _ (by omega) (by omega)]; exact d4, d5⟩, n⟩
  · rw [e1, g _ _ (by omega) (by omega)]
    exact h4 i hi hk
  · rw [e1, g _ _ (by omega) (by omega)]
    exact h4b
  · rw [e1]
    exact h5
/-- what the class answers to a letter -/
def sc_lo (I : Nat → Nat → Int32) (p : Nat) : Int32 := Int32.ofNat ((if 0 < p ∧ ¬ I 345 0 = 0 then 1 else 0) + (if 1 < p ∧ ¬ I 345 1 = 0 then 2 else 0))
def sc_45 (I : Nat → Nat → Int32) (p n : Nat) (b : Bool) : Int32 := if I 345 p = 0 then (if b = true then Int32.ofNat (n + 1) else 0) else I 345 p
/-- a property of the class, with its word -/
def sc_Q (T : wv_T) (I : Nat → Nat → Int32) (L : Nat → Nat → Int64) (R : Nat → Nat → Option Nat) (C : Nat) (P : pd_P) (S : rn_N) (sq : List Nat) (p n : Nat) (v : Nat → Nat) : Prop := R 27 p = some C ∧ (C = 28 ∨ C = 124 ∨ C = 220 ∨ C = 346) ∧ sc_E T I L R C P S sq (343 + p) 0 1918 ∧ 0 < pd_m P ∧ (∀ k, k < 67 → ¬ R (C + 9 + k) 0 = some 343 ∧ ¬ R (C + 9 + k) 0 = some 344) ∧ (0 < n → sc_M P v (I (C + 1)) (343 + p) 0 n 0 L)
def sc_FI (n : Nat) (I J : Nat → Nat → Int32) : Prop := ∀ c j, ¬ (c = 341 ∧ j = n) → ¬ c = 345 → J c j = I c j
def sc_dn (I J : Nat → Nat → Int32) (L1 : Nat → Nat → Int64) (C : Nat) (P : pd_P) (j n : Nat) (v : Nat → Nat) : Prop := ∃ f : Bool, J 345 j = sc_45 I j n f ∧ (f = true ↔ ∃ s, s < pd_m P ∧ sc_f P v (sc_W L1 (343 + j) 0) n s) ∧ sc_M P v (I (C + 1)) (343 + j) 0 (n + 1) 0 L1
def sc_l17 (c acc : Int32) (p : Nat) (x4 : Option Value) : List (Option Value) := [some (.ref 0), some (.int c), some (.int acc), some (.int (Int32.ofNat p)), x4, none, none]
def sc_h173 (c : Int32) (n a : Nat) (v : Nat → Nat) (C : Nat → Nat) (P : Nat → pd_P) (T : wv_T) (N : Nat) (I : Nat → Nat → Int32) (L : Nat → Nat → Int64) (R : Nat → Nat → Option Nat) : Nat → Option (Nat → wv_P) := fun pc =>
  if pc = 46 then some (fun mm lv st T1 N1 I1 L1 R1 nc ns => ∃ (p : Nat) (x4 : Option Value), lv = sc_l17 c (sc_lo I1 p) p x4 ∧ st = [] ∧ T1 = T ∧ N1 = N ∧ R1 = R ∧ nc = 0 ∧ ns = 0 ∧ p ≤ 2 ∧ mm = 10 * (5 - p) ∧ (c = Int32.ofNat a ∧ a < 64 ∧ n < 24) ∧ sc_FI n I I1 ∧ I1 341 n = c ∧ (∀ j, p ≤ j → I1 345 j = I 345 j) ∧ (∀ j, j < p → sc_dn I I1 L1 (C j) (P j) j n (mr_v v n a)) ∧ ∀ d k, ¬ (343 ≤ d ∧ d < 343 + p) → L1 d k = L d k)
  else if pc = 74 then some (fun mm lv st T1 N1 I1 L1 R1 nc ns => ∃ (p : Nat) (x4 : Option Value), lv = sc_l17 c (sc_lo I1 p) p x4 ∧ st = [] ∧ T1 = T ∧ N1 = N ∧ R1 = R ∧ nc = 0 ∧ ns = 0 ∧ p < 2 ∧ mm = 10 * (5 - p) - 1 ∧ (c = Int32.ofNat a ∧ a < 64 ∧ n < 24) ∧ sc_FI n I I1 ∧ I1 341 n = c ∧ (∀ j, p ≤ j → I1 345 j = I 345 j) ∧ (∀ j, j < p → sc_dn I I1 L1 (C j) (P j) j n (mr_v v n a)) ∧ (∀ d k, ¬ (343 ≤ d ∧ d < 343 + p + 1) → L1 d k = L d k) ∧ sc_M (P p) (mr_v v n a) (I (C p + 1)) (343 + p) 0 n 0 L1)
  else if pc = 123 then some (fun mm lv st T1 N1 I1 L1 R1 nc ns => ∃ (p : Nat) (x4 : Option Value), lv = sc_l17 c (sc_lo I1 p) p x4 ∧ st = [] ∧ T1 = T ∧ N1 = N ∧ R1 = R ∧ nc = 0 ∧ ns = 0 ∧ p < 2 ∧ mm = 10 * (5 - p) - 2 ∧ (c = Int32.ofNat a ∧ a < 64 ∧ n < 24) ∧ sc_FI n I I1 ∧ I1 341 n = c ∧ (∀ j, p + 1 ≤ j → I1 345 j = I 345 j) ∧ (∀ j, j < p + 1 → sc_dn I I1 L1 (C j) (P j) j n (mr_v v n a)) ∧ ∀ d k, ¬ (343 ≤ d ∧ d < 343 + p + 1) → L1 d k = L d k)
  else none
theorem sc_dn_c {I J J2 : Nat → Nat → Int32} {L1 L2 : Nat → Nat → Int64} {C : Nat} {P : pd_P} {j n : Nat} {v : Nat → Nat} (h : sc_dn I J L1 C P j n v) (h1 : J2 345 j = J 345 j) (h2 : ∀ k, L2 (343 + j) k = L1 (343 + j) k) : sc_dn I J2 L2 C P j n v := by
  obtain ⟨f, f1, f2, f3⟩ := h
  have e : L2 (343 + j) = L1 (343 + j) := funext h2
  refine ⟨f, h1.trans f1, ?_, sc_M_L h2 f3⟩
  unfold sc_W at f2 ⊢
  rw [e]
  exact f2
theorem sc_lo_s0 {I : Nat → Nat → Int32} {p : Nat} (hp : p < 2) (h : I 345 p = 0) : sc_lo I p ||| Int32.ofInt 0 = sc_lo I (p + 1) := by
  have e : p = 0 ∨ p = 1 := by omega
  unfold sc_lo
  rcases e with rfl | rfl
  · rw [if_neg (by omega), if_neg (by omega), if_neg (fun z => z.2 h), if_neg (by omega)]
    rfl
  · rw [if_neg (show ¬ (1 < 1 ∧ ¬ I 345 1 = 0) by omega), if_neg (show ¬ (1 < 1 + 1 ∧ ¬ I 345 1 = 0) from fun z => z.2 h)]
    by_cases c : I 345 0 = 0
    · rw [if_neg (fun z => z.2 c), if_neg (fun z => z.2 c)]
      rfl
    · rw [if_pos ⟨by omega, c⟩, if_pos ⟨by omega, c⟩]
      rfl
theorem sc_lo_s1 {I : Nat → Nat → Int32} {p : Nat} (hp : p < 2) (h : ¬ I 345 p = 0) : sc_lo I p ||| (Int32.ofInt 1 <<< (Int32.ofNat p &&& 31)) = sc_lo I (p + 1) := by
  have e : p = 0 ∨ p = 1 := by omega
  unfold sc_lo
  rcases e with rfl | rfl
  · rw [if_neg (by omega), if_neg (by omega), if_pos ⟨by omega, h⟩, if_neg (by omega)]
    rfl
  · rw [if_neg (show ¬ (1 < 1 ∧ ¬ I 345 1 = 0) by omega), if_pos (show (1 < 1 + 1 ∧ ¬ I 345 1 = 0) from ⟨by omega, h⟩)]
    by_cases c : I 345 0 = 0
    · rw [if_neg (fun z => z.2 c), if_neg (fun z => z.2 c)]
      rfl
    · rw [if_pos ⟨by omega, c⟩, if_pos ⟨by omega, c⟩]
      rfl
theorem sc_lo_c {I J : Nat → Nat → Int32} {p : Nat} (h : ∀ j, j < p → J 345 j = I 345 j) : sc_lo J p = sc_lo I p := by
  unfold sc_lo
  by_cases c0 : 0 < p
  · rw [h 0 c0]
    by_cases c1 : 1 < p
    · rw [h 1 c1]
    · rw [if_neg (show ¬ (1 < p ∧ ¬ J 345 1 = 0) from fun z => c1 z.1), if_neg (show ¬ (1 < p ∧ ¬ I 345 1 = 0) from fun z => c1 z.1)]
  · rw [if_neg (show ¬ (0 < p ∧ ¬ J 345 0 = 0) from fun z => c0 z.1), if_neg (show ¬ (0 < p ∧ ¬ I 345 0 = 0) from fun z => c0 z.1), if_neg (show ¬ (1 < p ∧ ¬ J 345 1 = 0) by omega), if_neg (show ¬ (1 < p ∧ ¬ I 345 1 = 0) by omega)]
theorem sc_hQ {R : Nat → Nat → Option Nat} {C : Nat} (hC : C = 28 ∨ C = 124 ∨ C = 220 ∨ C = 346) (h : ∀ k, k < 67 → ¬ R (C + 9 + k) 0 = some 343 ∧ ¬ R (C + 9 + k) 0 = some 344) : sc_h R C 343 ∧ sc_h R C 344 := ⟨⟨by omega, by omega, fun k hk => ⟨by omega, (h k hk).1⟩⟩, ⟨by omega, by omega, fun k hk => ⟨by omega, (h k hk).2⟩⟩⟩
theorem sc_E_L3 {T : wv_T} {I : Nat → Nat → Int32} {L L1 : Nat → Nat → Int64} {R : Nat → Nat → Option Nat} {C : Nat} {P : pd_P} {S : rn_N} {sq : List Nat} {B b len : Nat} (h : sc_E T I L R C P S sq B b len) (h3 : sc_h R C 343) (h4 : sc_h R C 344) (g : ∀ c j, ¬ c = 343 → ¬ c = 344 → L1 c j = L c j) : sc_E T I L1 R C P S sq B b len := by
  refine sc_E_L2 (L := fun c j => if c = 343 then L1 c j else L c j) (sc_E_L2 h h3 (fun c j hc => if_neg hc)) h4 (fun c j hc => ?_)
  show L1 c j = if c = 343 then L1 c j else L c j
  split
  · rfl
  · rename_i e
    exact g c j e hc
def sc_c173 : wv_c1 := fun as T N I L R q => ∃ (c : Int32) (n : Nat) (v : Nat → Nat) (C : Nat → Nat) (P : Nat → pd_P) (S : Nat → rn_N) (sq : Nat → List Nat), as = [.ref 0, .int c] ∧ wm_T T ∧ (∃ k1, T 27 = some (.inr (k1 + 4, 2))) ∧ (∃ k2, T 342 = some (.inr (k2 + 4, 2))) ∧ (∀ p, p < 2 → R 342 p = some (343 + p)) ∧ I 0 16 = Int32.ofNat n ∧ n ≤ 24 ∧ (∀ p, p < 2 → sc_Q T I L R (C p) (P p) (S p) (sq p) p n v) ∧ (¬ (0 ≤ c.toInt ∧ c.toInt < 64) → q (.inr 0) T N I L R 1 6) ∧ (0 ≤ c.toInt ∧ c.toInt < 64 → n = 24 → q (.inr 1) T N I L R 1 6) ∧ ∀ a : Nat, c = Int32.ofNat a → a < 64 → n < 24 → ∀ I1 L1, sc_FI n I I1 → I1 341 n = c → (∀ j, j < 2 → sc_dn I I1 L1 (C j) (P j) j n (mr_v v n a)) → (∀ d k, ¬ (343 ≤ d ∧ d < 345) → L1 d k = L d k) → q (.inl (some (.int (sc_lo I1 2)))) T N (wv_u I1 0 16 (Int32.ofNat (n + 1))) L1 R 0 0
set_option maxRecDepth 100000 in
theorem wM_173 : ∃ cb ci np, pt_mt 173 = some (1, cb, 5, false, some .int, ci, np) := ⟨_, _, _, rfl⟩
set_option maxRecDepth 100000 in
set_option maxHeartbeats 4000000 in
theorem sc_letter {sc : pt_Sc} {d : Nat} : wv_C wm_fx sc (d + 1 + 1 + 1 + 1 + 1) 173 sc_c173 := by
  rintro as T N I L R q ⟨c, n, v, C, P, S, sq, rfl, hT, ⟨k1, t27⟩, ⟨k2, t342⟩, h342, h16, hn, hQ, hbad, hfull, h⟩ w0 HR
  obtain ⟨cb, ci, np, hm⟩ := wM_173
  have hc174 : wv_C wm_fx sc (d + 1 + 1 + 1 + 1) 174 sc_c174 := wv_C_deep (by omega) (sc_isLetter (d := d))
  have hc175 : wv_C wm_fx sc (d + 1 + 1 + 1 + 1) 175 sc_c175 := wv_C_deep (by omega) (sc_startRow (d := d))
  have hc176 : wv_C wm_fx sc (d + 1 + 1 + 1 + 1) 176 sc_c176 := wv_C_deep (by omega) (sc_stepM (d := d))
  refine wv_meth (hh := none) rfl (sp := wv_sp [(174, sc_c174), (175, sc_c175), (176, sc_c176)]) (hd := sc_h173 c n c.toNatClampNeg v C P T N I L R) (n := 300) (n1 := 300) hm zc_173 rfl (wv_sp_ok (fun q hq => by
    rcases List.mem_cons.mp hq with h | h
    · rw [h]; exact hc174
    rcases List.mem_cons.mp h with h | h
    · rw [h]; exact hc175
    rw [List.mem_singleton.mp h]; exact hc176)) ?_ ?_ HR
  · have en := wi_on (n := n) (by omega)
    refine ⟨c, rfl, ?_⟩
    refine ⟨fun w => ?_, fun w => hbad (of_decide_eq_false (wb_i_2.mp w))⟩
    have w := of_decide_eq_true (wb_i_1.mp w)
    refine ⟨fun w2 => ?_, fun w2 => ?_⟩
    · have w2 : (I 0 16).toInt < 24 := wi_lt.mp w2
      rw [h16, en] at w2
      have enn := wi_onn (n := n) (by omega)
      refine ⟨_, wm_t hT rfl, by rw [h16]; exact pp_b (c := 24) (by omega) (by omega), by decide, ?_⟩
      rw [h16, enn]
      have hca : c = Int32.ofNat c.toNatClampNeg ∧ c.toNatClampNeg < 64 ∧ n < 24 := by
        rw [wi_nat]
        exact ⟨wi_eq.mpr (by rw [wi_on (by omega)]; omega), by omega, by omega⟩
      exact ⟨_, 0, none, rfl, rfl, rfl, rfl, rfl, rfl, rfl, by omega, rfl, hca, fun d j z _ => wv_u_no _ _ z, wv_u_at _ _ _ _, fun j _ => wv_u_no _ _ (by omega), fun j hj => by omega, fun _ _ _ => rfl⟩
    · have w2 : ¬ (I 0 16).toInt < 24 := fun z => w2 (wi_lt.mpr z)
      rw [h16, en] at w2
      exact hfull w (by omega)
  · intro pc P hP m lv st T1 N1 I1 L1 R1 nc ns hh
    generalize c.toNatClampNeg = a at *
    unfold sc_h173 at hP
    by_cases p46 : pc = 46
    · rw [if_pos p46] at hP
      cases hP
      subst p46
      obtain ⟨p, x4, rfl, rfl, rfl, rfl, rfl, rfl, rfl, hp, rfl, ⟨hca, ha, hn24⟩, hFI, h341, h345, hdn, hL⟩ := hh
      have ep := wi_on (n := p) (by omega)
      have epn := wi_onn (n := p) (by omega)
      have e2 : (Int32.ofInt 2).toInt = 2 := rfl
      have h16b : I1 0 16 = Int32.ofNat n := (hFI _ _ (by omega) (by omega)).trans h16
      refine ⟨fun w => ?_, fun w => ?_⟩
      · rw [wi_le, ep, e2] at w
        have e : p = 2 := by omega
        subst e
        have hq := h a hca ha hn24 I1 L1 hFI h341 hdn (fun d k z => hL d k (by omega))
        rw [← wq_4s n, ← h16b] at hq
        exact hq
      rw [wi_le, ep, e2] at w
      have hp2 : p < 2 := by omega
      obtain ⟨hR27, hC, hE, hm, hRk, hM⟩ := hQ p hp2
      refine ⟨fun w2 => ?_, fun w2 => ?_⟩
      · have w2 : ¬ I1 0 16 = 0 := w2
        have n0 : 0 < n := by
          refine Nat.pos_of_ne_zero (fun z => w2 ?_)
          rw [h16b, z]
          rfl
        refine ⟨10 * (5 - p) - 1, by omega, p, x4, rfl, rfl, rfl, rfl, rfl, rfl, rfl, hp2, rfl, ⟨hca, ha, hn24⟩, hFI, h341, h345, hdn, fun d k z => hL d k (by omega), sc_M_L (fun j => hL _ _ (by omega)) (sc_M_v (fun i hi => ?_) (hM n0))⟩
        unfold mr_v
        rw [if_neg (by omega)]
      have w2 : I1 0 16 = 0 := Decidable.not_not.mp w2
      have n0 : n = 0 := by
        rw [h16b] at w2
        have := wi_eq.mp w2
        rw [wi_on (by omega), wi_0] at this
        omega
      subst n0
      refine ⟨_, _, _, t27, pp_b (c := 2) (by omega) (by omega), by rw [epn]; exact hR27, ?_⟩
      refine ⟨_, _, _, t342, pp_b (c := 2) (by omega) (by omega), by rw [epn]; exact h342 p hp2, ?_⟩
      have sle := sc_sl (k := I (C p + 1)) (m := pd_m (P p)) (i := pd_m (P p))
      refine ⟨hE.1.1.1, C p, 343 + p, 0, 1918, pp_sl (I (C p + 1)) (pd_m (P p)) (pd_m (P p)), rfl, hE.1.1.1, (hFI _ _ (by omega) (by omega)).trans hE.2.2.2.1.2, hE.2.2.2.2.1.1, hE.2.2.2.2.1.2.1, by omega, by omega, by omega, fun L2 z1 z2 z3 => ?_⟩
      exact ⟨10 * (5 - p) - 1, by omega, p, x4, rfl, rfl, rfl, rfl, rfl, rfl, rfl, hp2, rfl, ⟨hca, ha, hn24⟩, hFI, h341, h345, fun j hj => sc_dn_c (hdn j hj) rfl (fun k => z3 _ _ (by omega)), fun d k z => (z3 d k (by omega)).trans (hL d k (by omega)), sc_M_0 z1 z2⟩
    rw [if_neg p46] at hP
    by_cases p74 : pc = 74
    · rw [if_pos p74] at hP
      cases hP
      subst p74
      obtain ⟨p, x4, rfl, rfl, rfl, rfl, rfl, rfl, rfl, hp2, rfl, ⟨hca, ha, hn24⟩, hFI, h341, h345, hdn, hL, hM⟩ := hh
      have epn := wi_onn (n := p) (by omega)
      have h16b : I1 0 16 = Int32.ofNat n := (hFI _ _ (by omega) (by omega)).trans h16
      obtain ⟨hR27, hC, hE, hm, hRk, _⟩ := hQ p hp2
      obtain ⟨hh3, hh4⟩ := sc_hQ hC hRk
      have eI : I1 (C p + 1) = I (C p + 1) := funext (fun j => hFI _ _ (by omega) (by omega))
      have hE1 : sc_E T1 I1 L1 R1 (C p) (P p) (S p) (sq p) (343 + p) 0 1918 := sc_E_L3 (sc_E_I hE (fun d j d1 d2 => hFI d j (by omega) (by omega))) hh3 hh4 (fun d j d1 d2 => hL d j (by omega))
      refine ⟨_, _, _, t27, pp_b (c := 2) (by omega) (by omega), by rw [epn]; exact hR27, ?_⟩
      refine ⟨_, _, _, t342, pp_b (c := 2) (by omega) (by omega), by rw [epn]; exact h342 p hp2, ?_⟩
      refine ⟨hE.1.1.1, C p, P p, S p, sq p, 343 + p, 0, 1918, n, a, mr_v v n a, by rw [h16b, hca]; rfl, hE1, by rw [eI]; exact hM, hn24, if_pos rfl, ha, fun L2 f m1 m2 m3 => ?_⟩
      rw [eI] at m1 m3
      have sle := hE.2.2.2.2.1.2.1
      have stay : ∀ j, j < p → ∀ J2 : Nat → Nat → Int32, J2 345 j = I1 345 j → sc_dn I J2 L2 (C j) (P j) j n (mr_v v n a) := fun j hj J2 hJ => sc_dn_c (hdn j hj) hJ (fun k => m3 _ _ (by omega))
      have low : ∀ d k, ¬ (343 ≤ d ∧ d < 343 + p + 1) → L2 d k = L d k := fun d k z => (m3 d k (by omega)).trans (hL d k z)
      have e345 := h345 p (Nat.le_refl _)
      have dn0 : ∀ J2 : Nat → Nat → Int32, J2 345 p = sc_45 I p n f → sc_dn I J2 L2 (C p) (P p) p n (mr_v v n a) := fun J2 hJ => ⟨f, hJ, m2, m1⟩
      have goal0 : I1 345 p = sc_45 I p n f → ∀ j, j < p + 1 → sc_dn I I1 L2 (C j) (P j) j n (mr_v v n a) := fun z j hj => by
        by_cases e : j = p
        · subst e
          exact dn0 I1 z
        · exact stay j (by omega) I1 rfl
      refine ⟨fun w => ?_, fun w => ?_⟩
      · have w := wb_i_2.mp (fun z => z w)
        refine ⟨10 * (5 - p) - 2, by omega, p, _, rfl, rfl, rfl, rfl, rfl, rfl, rfl, hp2, rfl, ⟨hca, ha, hn24⟩, hFI, h341, fun j hj => h345 j (by omega), goal0 ?_, low⟩
        unfold sc_45
        rw [w, e345]
        split
        · rename_i z
          rw [z]
          rfl
        · rfl
      have w := wb_i_1.mp w
      refine ⟨_, wm_t hT rfl, pp_b (c := 2) (by omega) (by omega), ?_⟩
      rw [epn]
      refine ⟨fun w2 => ?_, fun w2 => ?_⟩
      · have w2 : ¬ I1 345 p = 0 := w2
        refine ⟨10 * (5 - p) - 2, by omega, p, _, rfl, rfl, rfl, rfl, rfl, rfl, rfl, hp2, rfl, ⟨hca, ha, hn24⟩, hFI, h341, fun j hj => h345 j (by omega), goal0 ?_, low⟩
        unfold sc_45
        rw [e345] at w2
        rw [if_neg w2]
        exact e345
      have w2 : I1 345 p = 0 := Decidable.not_not.mp w2
      refine ⟨_, wm_t hT rfl, pp_b (c := 2) (by omega) (by omega), by decide, ?_⟩
      rw [epn, h16b, wq_4s]
      have lo : sc_lo (wv_u I1 345 p (Int32.ofNat (n + 1))) p = sc_lo I1 p := sc_lo_c (fun j hj => wv_u_no _ _ (by omega))
      refine ⟨10 * (5 - p) - 2, by omega, p, _, by rw [lo]; rfl, rfl, rfl, rfl, rfl, rfl, rfl, hp2, rfl, ⟨hca, ha, hn24⟩, fun d j z1 z2 => ?_, ?_, fun j hj => ?_, fun j hj => ?_, low⟩
      · rw [wv_u_no _ _ (by omega)]
        exact hFI d j z1 z2
      · rw [wv_u_no _ _ (by omega)]
        exact h341
      · rw [wv_u_no _ _ (by omega)]
        exact h345 j (by omega)
      · by_cases e : j = p
        · subst e
          refine dn0 _ ?_
          rw [wv_u_at]
          unfold sc_45
          rw [e345] at w2
          rw [if_pos w2, w]
          rfl
        · exact stay j (by omega) _ (wv_u_no _ _ (by omega))
    rw [if_neg p74] at hP
    by_cases p123 : pc = 123
    · rw [if_pos p123] at hP
      cases hP
      subst p123
      obtain ⟨p, x4, rfl, rfl, rfl, rfl, rfl, rfl, rfl, hp2, rfl, ⟨hca, ha, hn24⟩, hFI, h341, h345, hdn, hL⟩ := hh
      have epn := wi_onn (n := p) (by omega)
      refine ⟨_, wm_t hT rfl, pp_b (c := 2) (by omega) (by omega), ?_⟩
      rw [epn]
      refine ⟨fun w2 => ?_, fun w2 => ?_⟩
      · have w2 : ¬ I1 345 p = 0 := w2
        exact ⟨10 * (5 - (p + 1)), by omega, p + 1, x4, by unfold sc_l17; rw [← wq_4s p, ← sc_lo_s1 hp2 w2]; rfl, rfl, rfl, rfl, rfl, rfl, rfl, by omega, rfl, ⟨hca, ha, hn24⟩, hFI, h341, h345, hdn, fun d k z => hL d k (by omega)⟩
      · have w2 : I1 345 p = 0 := Decidable.not_not.mp w2
        exact ⟨10 * (5 - (p + 1)), by omega, p + 1, x4, by unfold sc_l17; rw [← wq_4s p, ← sc_lo_s0 hp2 w2]; rfl, rfl, rfl, rfl, rfl, rfl, rfl, by omega, rfl, ⟨hca, ha, hn24⟩, hFI, h341, h345, hdn, fun d k z => hL d k (by omega)⟩
    rw [if_neg p123] at hP
    cases hP
