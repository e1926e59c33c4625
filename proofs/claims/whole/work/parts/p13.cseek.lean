/-! ===== the class: a hunt ===== -/
def hu_g (P : pd_P) (a b g : Nat) (nx : Nat → Nat) (fi : Nat → Bool) (sg on tw : Nat → Nat) : (Nat → Nat) → Nat → Prop := fun u l => hw_X P (dz_w a b g nx fi sg on tw u) l
theorem hu_g_ok {P : pd_P} {a b g : Nat} {nx : Nat → Nat} {fi : Nat → Bool} {sg on tw : Nat → Nat} (ho : sc_ok P) : hd_g (hu_g P a b g nx fi sg on tw) := ⟨fun u l l2 h h1 h2 => hw_X_m ho h1 (by omega) h, fun u u2 l h g => hw_X_v (fun i hi => dz_w_c (fun j hj => h j (by omega))) g⟩
theorem hu_mv {H B len C : Nat} {C1 C2 : Nat} {P1 P2 : pd_P} {S1 S2 : rn_N} {sq1 sq2 : List Nat} {a b g : Nat} {nx : Nat → Nat} {fi : Nat → Bool} {sg on tw : Nat → Nat} {T : wv_T} {I J : Nat → Nat → Int32} {L : Nat → Nat → Int64} {R : Nat → Nat → Option Nat} (h : hu_Z H B len C C1 P1 S1 sq1 C2 P2 S2 sq2 a b g nx fi sg on tw T I L R) (f : ∀ c j, ¬ (H + 1 ≤ c ∧ c ≤ H + 6) → ¬ (c = H ∧ j = 8) → J c j = I c j) : hu_Z H B len C C1 P1 S1 sq1 C2 P2 S2 sq2 a b g nx fi sg on tw T J L R := by
  have s := h.2.2.2.1
  refine hu_Z_I h (fun c j c1 c2 c3 => f c j (by omega) c2) ?_ (fun s x hs hx => ?_)
  · rw [f _ _ (by omega) (by omega)]
    exact h.2.2.1.2.2.2.2.1
  · rw [f _ _ (by omega) (by omega)]
    exact h.2.2.1.2.2.2.2.2 s x hs hx
theorem hu_r_v {B d : Nat} {C1 C2 : Nat} {P1 P2 : pd_P} {S1 S2 : rn_N} {sq1 sq2 : List Nat} {v v2 : Nat → Nat} {I : Nat → Nat → Int32} {L : Nat → Nat → Int64} (h : hu_r B C1 P1 S1 sq1 C2 P2 S2 sq2 v I L d) (hv : ∀ j, j < d → v j = v2 j) : hu_r B C1 P1 S1 sq1 C2 P2 S2 sq2 v2 I L d := ⟨sc_M_v hv h.1, sc_M_v hv h.2⟩
/-- kept words -/
def hu_K (H fd : Nat) (w : Nat → Nat) (a b g : Nat) (nx : Nat → Nat) (fi : Nat → Bool) (sg on tw : Nat → Nat) (I : Nat → Nat → Int32) : Prop := I H 8 = Int32.ofNat fd ∧ ∀ j, j < fd → I (H + 4) j = Int32.ofNat (w j) ∧ I (H + 5) j = Int32.ofNat (dz_w a b g nx fi sg on tw w j) ∧ I (H + 6) j = Int32.ofNat (dz_r a b g nx fi sg on tw w j)
/-- the hunt goes on at depth t -/
def hu_V (H B len C k : Nat) (C1 : Nat) (P1 : pd_P) (S1 : rn_N) (sq1 : List Nat) (C2 : Nat) (P2 : pd_P) (S2 : rn_N) (sq2 : List Nat) (a b g : Nat) (nx : Nat → Nat) (fi : Nat → Bool) (sg on tw : Nat → Nat) (c : Nat → Nat) (t m fd : Nat) (w : Nat → Nat) (T : wv_T) (I : Nat → Nat → Int32) (L : Nat → Nat → Int64) (R : Nat → Nat → Option Nat) : Prop := hu_Z H B len C C1 P1 S1 sq1 C2 P2 S2 sq2 a b g nx fi sg on tw T I L R ∧ (k + 1) * (hu_e C1 P1 I + hu_e C2 P2 I) ≤ len ∧ (∀ j, j ≤ t → I (H + 1) j = Int32.ofNat (c j) ∧ I (H + 2) j = Int32.ofNat (dz_r a b g nx fi sg on tw c j)) ∧ (∀ j, j < t → I (H + 3) j = Int32.ofNat (dz_w a b g nx fi sg on tw c j)) ∧ (∀ d, d ≤ t → hu_r B C1 P1 S1 sq1 C2 P2 S2 sq2 (dz_w a b g nx fi sg on tw c) I L d) ∧ hu_K H fd w a b g nx fi sg on tw I ∧ hd_I (2 ^ a) k (hu_g P1 a b g nx fi sg on tw) (hu_g P2 a b g nx fi sg on tw) c t m fd w
theorem hu_ee {H C : Nat} {C1 C2 : Nat} {P1 P2 : pd_P} {S1 S2 : rn_N} {sq1 sq2 : List Nat} {I J : Nat → Nat → Int32} (s2 : (C1 + 75 < C ∨ C + 6 < C1) ∧ (C1 + 75 < H ∨ H + 7 < C1)) (s3 : (C2 + 75 < C ∨ C + 6 < C2) ∧ (C2 + 75 < H ∨ H + 7 < C2)) (f : ∀ c j, ¬ (H + 1 ≤ c ∧ c ≤ H + 7) → ¬ (c = H ∧ j = 8) → ¬ c = C + 6 → J c j = I c j) : (∀ j, J (C1 + 1) j = I (C1 + 1) j) ∧ (∀ j, J (C2 + 1) j = I (C2 + 1) j) ∧ hu_e C1 P1 J = hu_e C1 P1 I ∧ hu_e C2 P2 J = hu_e C2 P2 I := by
  have a1 : ∀ j, J (C1 + 1) j = I (C1 + 1) j := fun j => f _ _ (by omega) (by omega) (by omega)
  have a2 : ∀ j, J (C2 + 1) j = I (C2 + 1) j := fun j => f _ _ (by omega) (by omega) (by omega)
  exact ⟨a1, a2, hu_e_c a1, hu_e_c a2⟩
/-- another try at depth t -/
theorem hu_V_u {H B len C k t t2 m fd x : Nat} {C1 C2 : Nat} {P1 P2 : pd_P} {S1 S2 : rn_N} {sq1 sq2 : List Nat} {a b g : Nat} {nx : Nat → Nat} {fi : Nat → Bool} {sg on tw : Nat → Nat} {c w : Nat → Nat} {T : wv_T} {I : Nat → Nat → Int32} {L : Nat → Nat → Int64} {R : Nat → Nat → Option Nat} (h : hu_V H B len C k C1 P1 S1 sq1 C2 P2 S2 sq2 a b g nx fi sg on tw c t2 m fd w T I L R) (ht : t ≤ t2) (hI : hd_I (2 ^ a) k (hu_g P1 a b g nx fi sg on tw) (hu_g P2 a b g nx fi sg on tw) (hd_u c t x) t m fd w) : hu_V H B len C k C1 P1 S1 sq1 C2 P2 S2 sq2 a b g nx fi sg on tw (hd_u c t x) t m fd w T (wv_u I (H + 1) t (Int32.ofNat x)) L R := by
  obtain ⟨h1, h2, h3, h4, h5, h6, _⟩ := h
  have hu : ∀ i, ¬ i = t → hd_u c t x i = c i := fun i hi => if_neg hi
  have f : ∀ d j, ¬ d = H + 1 → wv_u I (H + 1) t (Int32.ofNat x) d j = I d j := fun d j hd => wv_u_no _ _ (fun y => hd y.1)
  obtain ⟨e1, e2, e3, e4⟩ := hu_ee (P1 := P1) (P2 := P2) (S1 := S1) (S2 := S2) (sq1 := sq1) (sq2 := sq2) h1.2.2.2.2.1 h1.2.2.2.2.2 (I := I) (J := wv_u I (H + 1) t (Int32.ofNat x)) (fun d j d1 d2 d3 => f d j (by omega))
  refine ⟨hu_mv h1 (fun d j d1 d2 => f d j (by omega)), by rw [e3, e4]; exact h2, fun j hj => ⟨?_, ?_⟩, fun j hj => ?_, fun d hd => hu_r_I (hu_r_v (h5 d (by omega)) (fun j hj => dz_w_c (fun i hi => (hu i (by omega)).symm))) e1 e2, ⟨(f _ _ (by omega)).trans h6.1, fun j hj => ?_⟩, hI⟩
  · by_cases e : j = t
    · rw [e, wv_u_at]
      exact congrArg Int32.ofNat (if_pos rfl).symm
    · rw [wv_u_no _ _ (fun y => e y.2), hu j e]
      exact (h3 j (by omega)).1
  · rw [f _ _ (by omega), dz_r_c j (fun i hi => hu i (by omega))]
    exact (h3 j (by omega)).2
  · rw [f _ _ (by omega), dz_w_c (fun i hi => hu i (by omega))]
    exact h4 j (by omega)
  · rw [f _ _ (by omega), f _ _ (by omega), f _ _ (by omega)]
    exact h6.2 j hj
def hu_l22 (H C1 C2 C k K m : Nat) (l7 : Int32) (i : Nat) (l9 : Option Value) : List (Option Value) := [some (.ref H), some (.ref C1), some (.ref C2), some (.ref C), some (.int (Int32.ofNat k)), some (.int (Int32.ofNat K)), some (.int (Int32.ofNat m)), some (.int l7), some (.int (Int32.ofNat i)), l9, none, none, none, none, none]
/-- since the hunt was prepared -/
def hu_f (H C B : Nat) (Ip : Nat → Nat → Int32) (Lp : Nat → Nat → Int64) (I1 : Nat → Nat → Int32) (L1 : Nat → Nat → Int64) : Prop := (∀ d j, ¬ (H + 1 ≤ d ∧ d ≤ H + 7) → ¬ (d = H ∧ j = 8) → ¬ d = C + 6 → I1 d j = Ip d j) ∧ ∀ d j, ¬ d = B → L1 d j = Lp d j
theorem hu_f_u {H C B t : Nat} {x : Int32} {Ip I1 : Nat → Nat → Int32} {Lp L1 : Nat → Nat → Int64} (h : hu_f H C B Ip Lp I1 L1) : hu_f H C B Ip Lp (wv_u I1 (H + 1) t x) L1 := ⟨fun d j d1 d2 d3 => (wv_u_no _ _ (by omega)).trans (h.1 d j d1 d2 d3), h.2⟩
def hu_h322 (H B0 C k : Nat) (C1 : Nat) (P1 : pd_P) (S1 : rn_N) (sq1 : List Nat) (C2 : Nat) (P2 : pd_P) (S2 : rn_N) (sq2 : List Nat) (a b g : Nat) (nx : Nat → Nat) (fi : Nat → Bool) (sg on tw : Nat → Nat) (T : wv_T) (N : Nat) (I : Nat → Nat → Int32) (L : Nat → Nat → Int64) (R : Nat → Nat → Option Nat) : Nat → Option (Nat → wv_P) := fun pc =>
  if pc = 32 then some (fun mm lv st T1 N1 I1 L1 R1 nc ns => (∃ (B len : Nat) (Ip : Nat → Nat → Int32) (Lp : Nat → Nat → Int64) (c w : Nat → Nat) (t m fd i : Nat) (l9 : Option Value), lv = hu_l22 H C1 C2 C k (2 ^ a) m (Int32.ofNat t) i l9 ∧ st = [] ∧ hu_23 H B0 C k C1 P1 S1 sq1 C2 P2 S2 sq2 a b g nx fi sg on tw T N I L R B len T1 N1 Ip Lp R1 nc ns ∧ hu_f H C B Ip Lp I1 L1 ∧ hu_V H B len C k C1 P1 S1 sq1 C2 P2 S2 sq2 a b g nx fi sg on tw c t m fd w T1 I1 L1 R1 ∧ i + hd_F (2 ^ a) k c t m ≤ 16384 ∧ mm = 3 * hd_F (2 ^ a) k c t m + 2) ∨ (∃ (B len : Nat) (Ip : Nat → Nat → Int32) (Lp : Nat → Nat → Int64) (w : Nat → Nat) (m fd i : Nat) (l9 : Option Value), lv = hu_l22 H C1 C2 C k (2 ^ a) m (Int32.ofInt (-1)) i l9 ∧ st = [] ∧ hu_23 H B0 C k C1 P1 S1 sq1 C2 P2 S2 sq2 a b g nx fi sg on tw T N I L R B len T1 N1 Ip Lp R1 nc ns ∧ hu_f H C B Ip Lp I1 L1 ∧ hu_Z H B len C C1 P1 S1 sq1 C2 P2 S2 sq2 a b g nx fi sg on tw T1 I1 L1 R1 ∧ hu_K H fd w a b g nx fi sg on tw I1 ∧ hd_R (2 ^ a) k (hu_g P1 a b g nx fi sg on tw) (hu_g P2 a b g nx fi sg on tw) fd w ∧ i ≤ 16384 ∧ mm = 0))
  else if pc = 63 then some (fun mm lv st T1 N1 I1 L1 R1 nc ns => ∃ (B len : Nat) (Ip : Nat → Nat → Int32) (Lp : Nat → Nat → Int64) (c w : Nat → Nat) (t m fd i : Nat) (l9 : Option Value), lv = hu_l22 H C1 C2 C k (2 ^ a) m (Int32.ofNat t) i l9 ∧ st = [] ∧ hu_23 H B0 C k C1 P1 S1 sq1 C2 P2 S2 sq2 a b g nx fi sg on tw T N I L R B len T1 N1 Ip Lp R1 nc ns ∧ hu_f H C B Ip Lp I1 L1 ∧ hu_V H B len C k C1 P1 S1 sq1 C2 P2 S2 sq2 a b g nx fi sg on tw c t m fd w T1 I1 L1 R1 ∧ i + hd_F (2 ^ a) k c t m ≤ 16384 ∧ (m ≤ t ∨ 2 ^ a ≤ c t) ∧ mm = 3 * hd_F (2 ^ a) k c t m + 1)
  else if pc = 85 then some (fun mm lv st T1 N1 I1 L1 R1 nc ns => ∃ (B len : Nat) (Ip : Nat → Nat → Int32) (Lp : Nat → Nat → Int64) (c w : Nat → Nat) (t m fd i : Nat) (l9 : Option Value), lv = hu_l22 H C1 C2 C k (2 ^ a) m (Int32.ofNat t) i l9 ∧ st = [] ∧ hu_23 H B0 C k C1 P1 S1 sq1 C2 P2 S2 sq2 a b g nx fi sg on tw T N I L R B len T1 N1 Ip Lp R1 nc ns ∧ hu_f H C B Ip Lp I1 L1 ∧ hu_V H B len C k C1 P1 S1 sq1 C2 P2 S2 sq2 a b g nx fi sg on tw c t m fd w T1 I1 L1 R1 ∧ i + hd_F (2 ^ a) k c t m ≤ 16384 ∧ t < m ∧ c t < 2 ^ a ∧ mm = 3 * hd_F (2 ^ a) k c t m + 1)
  else none
def hu_c322 : wv_c1 := fun as T N I L R q => ∃ (H B0 len0 C k : Nat) (C1 : Nat) (P1 : pd_P) (S1 : rn_N) (sq1 : List Nat) (C2 : Nat) (P2 : pd_P) (S2 : rn_N) (sq2 : List Nat) (a b g : Nat) (nx : Nat → Nat) (fi : Nat → Bool) (sg on tw : Nat → Nat), as = [.ref H, .ref C1, .ref C2, .ref C, .int (Int32.ofNat k)] ∧ 1 ≤ k ∧ k ≤ 12 ∧ a * k ≤ 12 ∧ hu_p H B0 len0 C C1 P1 S1 sq1 C2 P2 S2 sq2 a b g nx fi sg on tw T N I L R ∧ ∀ B len T1 N1 Ip Lp R1 n1 s1 I1 L1 fd w, hu_23 H B0 C k C1 P1 S1 sq1 C2 P2 S2 sq2 a b g nx fi sg on tw T N I L R B len T1 N1 Ip Lp R1 n1 s1 → hu_f H C B Ip Lp I1 L1 → hu_Z H B len C C1 P1 S1 sq1 C2 P2 S2 sq2 a b g nx fi sg on tw T1 I1 L1 R1 → hu_K H fd w a b g nx fi sg on tw I1 → hd_R (2 ^ a) k (hu_g P1 a b g nx fi sg on tw) (hu_g P2 a b g nx fi sg on tw) fd w → q (.inl (some (.int (Int32.ofNat fd)))) T1 N1 I1 L1 R1 n1 s1
set_option maxRecDepth 100000 in
theorem wM_322 : ∃ cb ci np, pt_mt 322 = some (16, cb, 10, false, some .int, ci, np) := ⟨_, _, _, rfl⟩
set_option maxRecDepth 100000 in
set_option maxHeartbeats 4000000 in
theorem hu_seek {sc : pt_Sc} {d : Nat} : wv_C wm_fx sc (d + 1 + 1 + 1 + 1 + 1 + 1) 322 hu_c322 := by
  rintro as T N I L R q ⟨H, B0, len0, C, k, C1, P1, S1, sq1, C2, P2, S2, sq2, a, b, g, nx, fi, sg, on, tw, rfl, hk1, hk, hak, hp, hok⟩ w0 HR
  obtain ⟨cb, ci, np, hm⟩ := wM_322
  have hc323 : wv_C wm_fx sc (d + 1 + 1 + 1 + 1 + 1) 323 hu_c323 := wv_C_deep (by omega) (hu_prepare (d := d))
  have hc308 : wv_C wm_fx sc (d + 1 + 1 + 1 + 1 + 1) 308 (wd_g 8) := wv_C_deep (by omega) (wd_inputs (d := d))
  have hc326 : wv_C wm_fx sc (d + 1 + 1 + 1 + 1 + 1) 326 hu_c326 := wv_C_deep (by omega) (hu_tryCycle (d := d))
  have hc330 : wv_C wm_fx sc (d + 1 + 1 + 1 + 1 + 1) 330 hu_c330 := wv_C_deep (by omega) (hu_keep (d := d))
  refine wv_meth (hh := none) rfl (sp := wv_sp [(323, hu_c323), (308, wd_g 8), (326, hu_c326), (330, hu_c330)]) (hd := hu_h322 H B0 C k C1 P1 S1 sq1 C2 P2 S2 sq2 a b g nx fi sg on tw T N I L R) (n := 300) (n1 := 300) hm zc_322 rfl (wv_sp_ok (fun q hq => by
    rcases List.mem_cons.mp hq with h | h
    · rw [h]; exact hc323
    rcases List.mem_cons.mp h with h | h
    · rw [h]; exact hc308
    rcases List.mem_cons.mp h with h | h
    · rw [h]; exact hc326
    rw [List.mem_singleton.mp h]; exact hc330)) ?_ ?_ HR
  · have hVV := hp.2.2.1.2.2.1
    have hM := hp.2.2.1.2.2.2.1
    have ha3 := hVV.2.1
    have hH := hp.1.1
    have tH := hH.1
    refine ⟨tH, H, B0, len0, C, k, C1, P1, S1, sq1, C2, P2, S2, sq2, a, b, g, nx, fi, sg, on, tw, rfl, hk1, hk, hp, fun B len T1 N1 I1 L1 R1 n1 s1 h23 => ?_⟩
    obtain ⟨hZ, hle, hr0, ht0, hl0, h80, hA, hns, hbb⟩ := id h23
    have hMM := hZ.2.2.1.2.2.2.1
    refine ⟨hZ.2.2.1.1.1, C, rfl, hZ.2.2.1.1.1, ?_⟩
    have hsh : Int32.ofInt 1 <<< (I1 C 8 &&& 31) = Int32.ofNat (2 ^ a) := by
      rw [hMM.1, dz_sh12 a (by omega)]
    have emin : (if (Int8.ofInt 12).toInt32 < Int32.ofNat k then (Int8.ofInt 12).toInt32 else Int32.ofNat k) = Int32.ofNat k := if_neg (by rw [show (Int8.ofInt 12).toInt32 = Int32.ofNat 12 from rfl, wi_lt, wi_on (by omega), wi_on (by omega)]; omega)
    have hK2 : 2 ≤ 2 ^ a := Nat.le_trans (show 2 ≤ 2 ^ 1 by decide) (Nat.pow_le_pow_right (by omega) hVV.1)
    have hT4 := hd_T_le hK2 k
    have hKn : (2 ^ a) ^ k ≤ 4096 := by
      rw [← Nat.pow_mul]
      exact Nat.pow_le_pow_right (n := 2) (by omega) hak
    have hF0 := hd_F_0 (K := 2 ^ a) (n := k) (c := fun _ => 0) hk1 rfl
    refine ⟨_, Or.inl ⟨B, len, I1, L1, fun _ => 0, fun _ => 0, 0, k, 0, 0, none, ?_, rfl, ?_, ⟨fun _ _ _ _ _ => rfl, fun _ _ _ => rfl⟩, ⟨hZ, hle, fun j hj => ?_, fun j hj => by omega, fun d hd => ?_, ⟨h80, fun j hj => by omega⟩, hd_start (by omega) rfl hw_X_0 hw_X_0⟩, by omega, rfl⟩⟩
    · first
        | (rw [emin, hsh]; rfl)
        | (rw [emin]; unfold hu_l22; rw [← hsh]; rfl)
    · have e1 : 0 + n1 + 0 = n1 := by omega
      have e2 : 0 + s1 + 0 = s1 := by omega
      first
        | exact h23
        | (rw [e1, e2]; exact h23)
    · have e : j = 0 := by omega
      subst e
      exact ⟨ht0, hl0⟩
    · have e : d = 0 := by omega
      subst e
      exact hr0 _
  · intro pc P hP2 m lv st T1 N1 I1 L1 R1 nc ns hh
    have hVV := hp.2.2.1.2.2.1
    have ha3 := hVV.2.1
    have hK8 : 2 ^ a ≤ 8 := dz_p3 ha3
    have lim : (1000000 : Int32) = Int32.ofNat 1000000 := rfl
    unfold hu_h322 at hP2
    by_cases p32 : pc = 32
    · rw [if_pos p32] at hP2
      cases hP2
      subst p32
      rcases hh with ⟨B, len, Ip, Lp, c, w, t, mx, fd, i, l9, rfl, rfl, h23, hf, hV, hi, rfl⟩ | ⟨B, len, Ip, Lp, w, mx, fd, i, l9, rfl, rfl, h23, hf, hZ, hkp, hR, hi, rfl⟩
      rotate_left
      · have hq := hok B len T1 N1 Ip Lp R1 nc ns I1 L1 fd w h23 hf hZ hkp hR
        rw [← hkp.1] at hq
        have tH := hZ.1.1.1
        refine ⟨fun _ => ⟨tH, hq⟩, fun _ => ?_⟩
        exact ⟨fun _ => ⟨tH, hq⟩, fun w2 => absurd (by decide) w2⟩
      obtain ⟨hZ, hle, harr, hlet, hrow, hkp, hI⟩ := id hV
      have ho1 : sc_ok P1 := hZ.2.1.1.2.2.2.2.2.1
      have ho2 : sc_ok P2 := hZ.2.1.2.2.2.2.2.2.1
      have G1 := hu_g_ok (a := a) (b := b) (g := g) (nx := nx) (fi := fi) (sg := sg) (on := on) (tw := tw) ho1
      have G2 := hu_g_ok (a := a) (b := b) (g := g) (nx := nx) (fi := fi) (sg := sg) (on := on) (tw := tw) ho2
      obtain ⟨hmn, htn, hn12, _, hcK, _, _, _, _⟩ := id hI
      have hH := hZ.1.1
      have tH := hH.1
      have etn := wi_onn (n := t) (by omega)
      have et := wi_on (n := t) (by omega)
      refine ⟨fun w1 => ?_, fun _ => ?_⟩
      · have w1 : Int32.ofNat 1000000 ≤ Int32.ofNat i := w1
        rw [wi_le, wi_on (by omega), wi_on (by omega)] at w1
        omega
      refine ⟨fun w2 => ?_, fun _ => ?_⟩
      · have w2 : Int32.ofNat t < 0 := w2
        rw [wi_lt, et, wi_0] at w2
        omega
      refine ⟨fun w3 => ?_, fun w3 => ?_⟩
      · have w3 : Int32.ofNat mx ≤ Int32.ofNat t := w3
        rw [wi_le, wi_on (by omega), et] at w3
        exact ⟨3 * hd_F (2 ^ a) k c t mx + 1, by omega, B, len, Ip, Lp, c, w, t, mx, fd, i, l9, rfl, rfl, h23, hf, hV, hi, Or.inl (by omega), rfl⟩
      have w3 : ¬ Int32.ofNat mx ≤ Int32.ofNat t := w3
      rw [wi_le, wi_on (by omega), et] at w3
      refine ⟨tH, H + 1, hH.2.1 0 (by omega), _, hH.2.2.1, pp_b (c := 13) (by omega) (by omega), ?_⟩
      rw [etn, (harr t (Nat.le_refl _)).1]
      refine ⟨fun w4 => ?_, fun w4 => ?_⟩
      · have w4 : Int32.ofNat (c t) < Int32.ofNat (2 ^ a) := w4
        rw [wi_lt, wi_on (by omega), wi_on (by omega)] at w4
        exact ⟨3 * hd_F (2 ^ a) k c t mx + 1, by omega, B, len, Ip, Lp, c, w, t, mx, fd, i, l9, rfl, rfl, h23, hf, hV, hi, by omega, by omega, rfl⟩
      · have w4 : ¬ Int32.ofNat (c t) < Int32.ofNat (2 ^ a) := w4
        rw [wi_lt, wi_on (by omega), wi_on (by omega)] at w4
        exact ⟨3 * hd_F (2 ^ a) k c t mx + 1, by omega, B, len, Ip, Lp, c, w, t, mx, fd, i, l9, rfl, rfl, h23, hf, hV, hi, Or.inr (by omega), rfl⟩
    rw [if_neg p32] at hP2
    by_cases p63 : pc = 63
    · rw [if_pos p63] at hP2
      cases hP2
      subst p63
      obtain ⟨B, len, Ip, Lp, c, w, t, mx, fd, i, l9, rfl, rfl, h23, hf, hV, hi, hpop, rfl⟩ := hh
      obtain ⟨hZ, hle, harr, hlet, hrow, hkp, hI⟩ := id hV
      have ho1 : sc_ok P1 := hZ.2.1.1.2.2.2.2.2.1
      have ho2 : sc_ok P2 := hZ.2.1.2.2.2.2.2.2.1
      have G1 := hu_g_ok (a := a) (b := b) (g := g) (nx := nx) (fi := fi) (sg := sg) (on := on) (tw := tw) ho1
      have G2 := hu_g_ok (a := a) (b := b) (g := g) (nx := nx) (fi := fi) (sg := sg) (on := on) (tw := tw) ho2
      obtain ⟨hmn, htn, hn12, _, hcK, _, _, _, _⟩ := id hI
      have hH := hZ.1.1
      have tH := hH.1
      have etn := wi_onn (n := t) (by omega)
      have et := wi_on (n := t) (by omega)
      have hF1 : 1 ≤ hd_F (2 ^ a) k c t mx := by
        unfold hd_F
        split <;> omega
      cases t with
      | zero =>
        refine ⟨fun _ => ?_, fun w1 => absurd (by decide) w1⟩
        refine ⟨0, by omega, Or.inr ⟨B, len, Ip, Lp, w, mx, fd, i + 1, l9, ?_, rfl, h23, hf, hZ, hkp, hd_end hI hpop, by omega, rfl⟩⟩
        unfold hu_l22
        rw [← wq_4s]
        rfl
      | succ t =>
        have es : Int32.ofNat (t + 1) + Int32.ofInt (-1) = Int32.ofNat t := by
          rw [show Int32.ofInt (-1) = -(Int32.ofInt 1) from rfl, ← Int32.sub_eq_add_neg, wi_s1 (by omega) (by omega), Nat.add_sub_cancel]
        have etn2 := wi_onn (n := t) (by omega)
        refine ⟨fun w1 => ?_, fun _ => ?_⟩
        · have w1 : Int32.ofNat (t + 1) + Int32.ofInt (-1) < 0 := w1
          rw [es, wi_lt, wi_on (by omega), wi_0] at w1
          omega
        have a1 : H + 1 < 1099511627776 := by
          have := hZ.1.2.2
          omega
        refine ⟨tH, H + 1, hH.2.1 0 (by omega), ?_⟩
        rw [es]
        refine ⟨_, hH.2.2.1, pp_b (c := 13) (by omega) (by omega), ?_⟩
        rw [etn2, (harr t (by omega)).1]
        refine ⟨_, hH.2.2.1, pp_b (c := 13) (by omega) (by omega), a1, ?_⟩
        rw [etn2, wq_4s]
        have hp2 := hd_pop G1 G2 hI hpop
        have hF2 := hd_F_pop (K := 2 ^ a) (n := k) (t := t) (m := mx) (c := c)
        refine ⟨3 * hd_F (2 ^ a) k (hd_u c t (c t + 1)) t mx + 2, by omega, Or.inl ⟨B, len, Ip, Lp, hd_u c t (c t + 1), w, t, mx, fd, i + 1, l9, ?_, rfl, h23, hu_f_u hf, hu_V_u hV (by omega) hp2, by omega, rfl⟩⟩
        unfold hu_l22
        rw [← wq_4s i]
        rfl
    rw [if_neg p63] at hP2
    by_cases p85 : pc = 85
    · rw [if_pos p85] at hP2
      cases hP2
      subst p85
      obtain ⟨B, len, Ip, Lp, c, w, t, mx, fd, i, l9, rfl, rfl, h23, hf, hV, hi, htm, hct, rfl⟩ := hh
      obtain ⟨hZ, hle, harr, hlet, hrow, hkp, hI⟩ := id hV
      have ho1 : sc_ok P1 := hZ.2.1.1.2.2.2.2.2.1
      have ho2 : sc_ok P2 := hZ.2.1.2.2.2.2.2.2.1
      have G1 := hu_g_ok (a := a) (b := b) (g := g) (nx := nx) (fi := fi) (sg := sg) (on := on) (tw := tw) ho1
      have G2 := hu_g_ok (a := a) (b := b) (g := g) (nx := nx) (fi := fi) (sg := sg) (on := on) (tw := tw) ho2
      obtain ⟨hmn, htn, hn12, _, hcK, _, _, _, _⟩ := id hI
      have hH := hZ.1.1
      have tH := hH.1
      have etn := wi_onn (n := t) (by omega)
      have et := wi_on (n := t) (by omega)
      have hH4 := hZ.1.2.2
      have a1 : H + 1 < 1099511627776 := by omega
      have hmul : (t + 2) * (hu_e C1 P1 I1 + hu_e C2 P2 I1) ≤ (k + 1) * (hu_e C1 P1 I1 + hu_e C2 P2 I1) := Nat.mul_le_mul_right _ (by omega)
      refine ⟨tH, H, B, len, C, t, c, C1, P1, S1, sq1, C2, P2, S2, sq2, a, b, g, nx, fi, sg, on, tw, rfl, hZ, by omega, by omega, (harr t (Nat.le_refl _)).1, by omega, (harr t (Nat.le_refl _)).2, hrow t (Nat.le_refl _), fun I2 L2 f1 f2 hZ2 hfr h3 h2 hLo hLl hr2 hf1 hf2 => ?_⟩
      obtain ⟨e1, e2, e3, e4⟩ := hu_ee (P1 := P1) (P2 := P2) (S1 := S1) (S2 := S2) (sq1 := sq1) (sq2 := sq2) (C := C) hZ.2.2.2.2.1 hZ.2.2.2.2.2 (I := I1) (J := I2) (fun d j d1 d2 d3 => hfr d j (by omega) d3 (by omega) (by omega))
      have x1 : f1 = true ↔ hu_g P1 a b g nx fi sg on tw c (t + 1) := hw_X_s ho1 (by omega) hr2.1.1 hf1 hI.2.2.2.2.2.1
      have x2 : f2 = true ↔ hu_g P2 a b g nx fi sg on tw c (t + 1) := hw_X_s ho2 (by omega) hr2.2.1 hf2 hI.2.2.2.2.2.2.1
      have hfp : hu_f H C B Ip Lp I2 L2 := ⟨fun d j d1 d2 d3 => (hfr d j (by omega) d3 (by omega) (by omega)).trans (hf.1 d j d1 d2 d3), fun d j hd => (hLo d j hd).trans (hf.2 d j hd)⟩
      have arr2 : ∀ j, j ≤ t → I2 (H + 1) j = Int32.ofNat (c j) ∧ I2 (H + 2) j = Int32.ofNat (dz_r a b g nx fi sg on tw c j) := fun j hj => by
        rw [hfr _ _ (by omega) (by have := hZ.2.2.2.1; omega) (by omega) (by omega), hfr _ _ (by omega) (by have := hZ.2.2.2.1; omega) (by omega) (by omega)]
        exact harr j hj
      have sep := hZ.2.2.2.1
      have let2 : ∀ j, j ≤ t → I2 (H + 3) j = Int32.ofNat (dz_w a b g nx fi sg on tw c j) := fun j hj => by
        by_cases e : j = t
        · rw [e]
          exact h3
        · rw [hfr _ _ (by omega) (by omega) (by omega) (by omega)]
          exact hlet j (by omega)
      have row2 : ∀ d, d ≤ t + 1 → hu_r B C1 P1 S1 sq1 C2 P2 S2 sq2 (dz_w a b g nx fi sg on tw c) I2 L2 d := fun d hd => by
        by_cases e : d = t + 1
        · rw [e]
          exact hu_r_I hr2 e1 e2
        · exact hu_r_I (hu_r_L (e := t + 1) (hrow d (by omega)) hZ.2.1.1 hZ.2.1.2 (by omega) (fun _ _ => rfl) (by omega) hLl) e1 e2
      have kp2 : hu_K H fd w a b g nx fi sg on tw I2 := ⟨(hfr _ _ (by omega) (by omega) (by omega) (by omega)).trans hkp.1, fun j hj => by
        rw [hfr _ _ (by omega) (by omega) (by omega) (by omega), hfr _ _ (by omega) (by omega) (by omega) (by omega), hfr _ _ (by omega) (by omega) (by omega) (by omega)]
        exact hkp.2 j hj⟩
      have hV2 : hu_V H B len C k C1 P1 S1 sq1 C2 P2 S2 sq2 a b g nx fi sg on tw c t mx fd w T1 I2 L2 R1 := ⟨hZ2, by rw [e3, e4]; exact hle, arr2, fun j hj => let2 j (by omega), fun d hd => row2 d (by omega), kp2, hI⟩
      have eo : ∀ z : Nat, z ≤ 2 → (Int32.ofNat z).toInt = z := fun z hz => wi_on (by omega)
      cases f1 with
      | false =>
        have n1 : ¬ hu_g P1 a b g nx fi sg on tw c (t + 1) := fun y => by
          have := x1.mpr y
          cases this
        cases f2 with
        | false =>
          have n2 : ¬ hu_g P2 a b g nx fi sg on tw c (t + 1) := fun y => by
            have := x2.mpr y
            cases this
          refine ⟨fun w1 => absurd (by decide) w1, fun _ => ?_⟩
          refine ⟨tH, H + 1, hH.2.1 0 (by omega), ?_⟩
          rw [wq_4s]
          refine ⟨_, hH.2.2.1, pp_b (c := 13) (by omega) (by omega), a1, ?_⟩
          rw [wi_onn (n := t + 1) (by omega)]
          have hd2 := hd_down G1 G2 hI htm hct n1 n2
          have hF2 := hd_F_down (K := 2 ^ a) (n := k) (t := t) (m := mx) (c := c) htm (by omega) hct
          have hu : ∀ j, ¬ j = t + 1 → hd_u c (t + 1) 0 j = c j := fun j hj => if_neg hj
          have f : ∀ d j, ¬ d = H + 1 → wv_u I2 (H + 1) (t + 1) (Int32.ofInt 0) d j = I2 d j := fun d j hd => wv_u_no _ _ (fun y => hd y.1)
          obtain ⟨v1, v2, v3, v4⟩ := hu_ee (P1 := P1) (P2 := P2) (S1 := S1) (S2 := S2) (sq1 := sq1) (sq2 := sq2) (C := C) hZ.2.2.2.2.1 hZ.2.2.2.2.2 (I := I2) (J := wv_u I2 (H + 1) (t + 1) (Int32.ofInt 0)) (fun d j d1 d2 d3 => f d j (by omega))
          refine ⟨3 * hd_F (2 ^ a) k (hd_u c (t + 1) 0) (t + 1) mx + 2, by omega, Or.inl ⟨B, len, Ip, Lp, hd_u c (t + 1) 0, w, t + 1, mx, fd, i + 1, some (.int (Int32.ofNat (hu_o false false))), ?_, rfl, h23, hu_f_u hfp, ⟨hu_mv hZ2 (fun d j d1 d2 => f d j (by omega)), by rw [v3, v4, e3, e4]; exact hle, fun j hj => ⟨?_, ?_⟩, fun j hj => ?_, fun d hd => ?_, ⟨(f _ _ (by omega)).trans kp2.1, fun j hj => ?_⟩, hd2⟩, by omega, rfl⟩⟩
          · unfold hu_l22
            rw [← wq_4s i]
            rfl
          · by_cases e : j = t + 1
            · rw [e, wv_u_at]
              exact congrArg Int32.ofNat (if_pos rfl).symm
            · rw [wv_u_no _ _ (fun y => e y.2), hu j e]
              exact (arr2 j (by omega)).1
          · rw [f _ _ (by omega), dz_r_c j (fun i hi => hu i (by omega))]
            by_cases e : j = t + 1
            · rw [e]
              exact h2
            · exact (arr2 j (by omega)).2
          · rw [f _ _ (by omega), dz_w_c (fun i hi => hu i (by omega))]
            exact let2 j (by omega)
          · exact hu_r_I (hu_r_v (row2 d hd) (fun j hj => dz_w_c (fun i hi => (hu i (by omega)).symm))) v1 v2
          · rw [f _ _ (by omega), f _ _ (by omega), f _ _ (by omega)]
            exact kp2.2 j hj
        | true =>
          have ne : ¬ hd_e (hu_g P1 a b g nx fi sg on tw) (hu_g P2 a b g nx fi sg on tw) c (t + 1) := fun y => by
            have y : hu_g P1 a b g nx fi sg on tw c (t + 1) ↔ hu_g P2 a b g nx fi sg on tw c (t + 1) := y
            rw [← x1, ← x2] at y
            revert y
            decide
          refine ⟨fun _ => ?_, fun w1 => absurd (by decide) w1⟩
          refine ⟨fun w1 => absurd rfl w1, fun _ => ?_⟩
          refine ⟨tH, H, t + 1, (by first | rfl | exact congrArg (fun y => [Value.ref H, Value.int y]) (wq_4s t)), hH, by omega, by omega, ?_⟩
          have hd2 := hd_hit hI htm hct ne
          have hF2 := hd_F_hit (K := 2 ^ a) (n := k) (t := t) (m := mx) (c := c) htm hct
          have f : ∀ d j, ¬ (H + 4 ≤ d ∧ d ≤ H + 6) → ¬ (d = H ∧ j = 8) → hu_k H (t + 1) (wv_u I2 H 8 (Int32.ofNat (t + 1))) d j = I2 d j := fun d j d1 d2 => by
            unfold hu_k
            rw [if_neg (by omega), if_neg (by omega), if_neg (by omega), wv_u_no _ _ d2]
          obtain ⟨v1, v2, v3, v4⟩ := hu_ee (P1 := P1) (P2 := P2) (S1 := S1) (S2 := S2) (sq1 := sq1) (sq2 := sq2) (C := C) hZ.2.2.2.2.1 hZ.2.2.2.2.2 (I := I2) (J := hu_k H (t + 1) (wv_u I2 H 8 (Int32.ofNat (t + 1)))) (fun d j d1 d2 d3 => f d j (by omega) d2)
          refine ⟨3 * hd_F (2 ^ a) k c t t + 2, by omega, Or.inl ⟨B, len, Ip, Lp, c, c, t, t, t + 1, i + 1, some (.int (Int32.ofNat (hu_o false true))), ?_, rfl, h23, ⟨fun d j d1 d2 d3 => (f d j (by omega) d2).trans (hfp.1 d j d1 d2 d3), hfp.2⟩, ⟨hu_mv hZ2 (fun d j d1 d2 => f d j (by omega) d2), by rw [v3, v4, e3, e4]; exact hle, fun j hj => ?_, fun j hj => ?_, fun d hd => hu_r_I (row2 d (by omega)) v1 v2, ⟨?_, fun j hj => ⟨?_, ?_, ?_⟩⟩, hd2⟩, by omega, rfl⟩⟩
          · unfold hu_l22
            rw [← wq_4s i]
            rfl
          · rw [f _ _ (by omega) (by omega), f _ _ (by omega) (by omega)]
            exact arr2 j hj
          · rw [f _ _ (by omega) (by omega)]
            exact let2 j (by omega)
          · unfold hu_k
            rw [if_neg (by omega), if_neg (by omega), if_neg (by omega), wv_u_at]
          · unfold hu_k
            rw [if_pos ⟨rfl, hj⟩, wv_u_no _ _ (by omega)]
            exact (arr2 j (by omega)).1
          · unfold hu_k
            rw [if_neg (by omega), if_pos ⟨rfl, hj⟩, wv_u_no _ _ (by omega)]
            exact let2 j (by omega)
          · unfold hu_k
            rw [if_neg (by omega), if_neg (by omega), if_pos ⟨rfl, hj⟩, wv_u_no _ _ (by omega)]
            exact (arr2 j (by omega)).2
      | true =>
        cases f2 with
        | false =>
          have ne : ¬ hd_e (hu_g P1 a b g nx fi sg on tw) (hu_g P2 a b g nx fi sg on tw) c (t + 1) := fun y => by
            have y : hu_g P1 a b g nx fi sg on tw c (t + 1) ↔ hu_g P2 a b g nx fi sg on tw c (t + 1) := y
            rw [← x1, ← x2] at y
            revert y
            decide
          refine ⟨fun _ => ?_, fun w1 => absurd (by decide) w1⟩
          refine ⟨fun w1 => absurd rfl w1, fun _ => ?_⟩
          refine ⟨tH, H, t + 1, (by first | rfl | exact congrArg (fun y => [Value.ref H, Value.int y]) (wq_4s t)), hH, by omega, by omega, ?_⟩
          have hd2 := hd_hit hI htm hct ne
          have hF2 := hd_F_hit (K := 2 ^ a) (n := k) (t := t) (m := mx) (c := c) htm hct
          have f : ∀ d j, ¬ (H + 4 ≤ d ∧ d ≤ H + 6) → ¬ (d = H ∧ j = 8) → hu_k H (t + 1) (wv_u I2 H 8 (Int32.ofNat (t + 1))) d j = I2 d j := fun d j d1 d2 => by
            unfold hu_k
            rw [if_neg (by omega), if_neg (by omega), if_neg (by omega), wv_u_no _ _ d2]
          obtain ⟨v1, v2, v3, v4⟩ := hu_ee (P1 := P1) (P2 := P2) (S1 := S1) (S2 := S2) (sq1 := sq1) (sq2 := sq2) (C := C) hZ.2.2.2.2.1 hZ.2.2.2.2.2 (I := I2) (J := hu_k H (t + 1) (wv_u I2 H 8 (Int32.ofNat (t + 1)))) (fun d j d1 d2 d3 => f d j (by omega) d2)
          refine ⟨3 * hd_F (2 ^ a) k c t t + 2, by omega, Or.inl ⟨B, len, Ip, Lp, c, c, t, t, t + 1, i + 1, some (.int (Int32.ofNat (hu_o true false))), ?_, rfl, h23, ⟨fun d j d1 d2 d3 => (f d j (by omega) d2).trans (hfp.1 d j d1 d2 d3), hfp.2⟩, ⟨hu_mv hZ2 (fun d j d1 d2 => f d j (by omega) d2), by rw [v3, v4, e3, e4]; exact hle, fun j hj => ?_, fun j hj => ?_, fun d hd => hu_r_I (row2 d (by omega)) v1 v2, ⟨?_, fun j hj => ⟨?_, ?_, ?_⟩⟩, hd2⟩, by omega, rfl⟩⟩
          · unfold hu_l22
            rw [← wq_4s i]
            rfl
          · rw [f _ _ (by omega) (by omega), f _ _ (by omega) (by omega)]
            exact arr2 j hj
          · rw [f _ _ (by omega) (by omega)]
            exact let2 j (by omega)
          · unfold hu_k
            rw [if_neg (by omega), if_neg (by omega), if_neg (by omega), wv_u_at]
          · unfold hu_k
            rw [if_pos ⟨rfl, hj⟩, wv_u_no _ _ (by omega)]
            exact (arr2 j (by omega)).1
          · unfold hu_k
            rw [if_neg (by omega), if_pos ⟨rfl, hj⟩, wv_u_no _ _ (by omega)]
            exact let2 j (by omega)
          · unfold hu_k
            rw [if_neg (by omega), if_neg (by omega), if_pos ⟨rfl, hj⟩, wv_u_no _ _ (by omega)]
            exact (arr2 j (by omega)).2
        | true =>
          have n1 := x1.mp rfl
          have n2 := x2.mp rfl
          refine ⟨fun _ => ?_, fun w1 => absurd (by decide) w1⟩
          refine ⟨fun _ => ?_, fun w1 => absurd (by decide) w1⟩
          refine ⟨tH, H + 1, hH.2.1 0 (by omega), _, hH.2.2.1, pp_b (c := 13) (by omega) (by omega), ?_⟩
          rw [etn, (arr2 t (Nat.le_refl _)).1]
          refine ⟨_, hH.2.2.1, pp_b (c := 13) (by omega) (by omega), a1, ?_⟩
          rw [etn, wq_4s]
          have hd2 := hd_dead G1 G2 hI htm hct n1 n2
          have hF2 := hd_F_dead (K := 2 ^ a) (n := k) (t := t) (m := mx) (c := c) htm hct
          refine ⟨3 * hd_F (2 ^ a) k (hd_u c t (c t + 1)) t mx + 2, by omega, Or.inl ⟨B, len, Ip, Lp, hd_u c t (c t + 1), w, t, mx, fd, i + 1, some (.int (Int32.ofNat (hu_o true true))), ?_, rfl, h23, hu_f_u hfp, hu_V_u hV2 (Nat.le_refl _) hd2, by omega, rfl⟩⟩
          unfold hu_l22
          rw [← wq_4s i]
          rfl
    rw [if_neg p85] at hP2
    cases hP2
