/-! ===== the class: never, and open ones ===== -/
/-- what a part's step is given, and what it must give -/
def sc_pre (T : wv_T) (I : Nat → Nat → Int32) (L : Nat → Nat → Int64) (R : Nat → Nat → Option Nat) (C : Nat) (P : pd_P) (S : rn_N) (sq : List Nat) (B b len n p a : Nat) (v : Nat → Nat) : Prop := sc_E T I L R C P S sq B b len ∧ sc_M P v (I (C + 1)) B b n p L ∧ n < 24 ∧ p < pd_m P ∧ v n = a ∧ a < 64
def sc_pst (q : wv_Q) (T : wv_T) (N : Nat) (I : Nat → Nat → Int32) (L : Nat → Nat → Int64) (R : Nat → Nat → Option Nat) (C : Nat) (P : pd_P) (B b n p : Nat) (v : Nat → Nat) : Prop := ∀ L1 f, sc_M P v (I (C + 1)) B b n (p + 1) L1 → (f = true ↔ sc_f P v (sc_W L B b) n p) → sc_FB B b (pp_sl (I (C + 1)) (pd_m P) (pd_m P)) L L1 → q (.inl (some (.int (wb_i f)))) T N I L1 R 0 0
theorem sc_nT {P : pd_P} {p q : Nat} (h : pd_k P p = 0 ∨ pd_k P p = 1 ∨ pd_k P p = 6 ∨ pd_k P p = 9) : ¬ sc_T P p q := by
  rintro (⟨_, z⟩ | ⟨z, _⟩) <;> omega
/-- only the own extra word, or the own slots, change -/
theorem sc_fin0 {P : pd_P} {v : Nat → Nat} {k : Nat → Int32} {B b n p : Nat} {L L1 : Nat → Nat → Int64} (ho : sc_ok P) (hn : n < 24) (hp : p < pd_m P) (hk : ∀ s, s < pd_m P → pd_k P s = 1 → k s = Int32.ofInt 1) (h : sc_M P v k B b n p L) (hT : pd_k P p = 0 ∨ pd_k P p = 1 ∨ pd_k P p = 6 ∨ pd_k P p = 9)
    (h1 : ∀ j, ¬ j = b + pd_m P + p → ¬ (pd_k P p = 1 ∧ b + pp_sl k (pd_m P) p ≤ j ∧ j < b + pp_sl k (pd_m P) p + 24) → L1 B j = L B j)
    (h4 : sc_X P v (sc_W L B b) p (n + 1) (L1 B (b + pd_m P + p)) (fun j => L1 B (b + pp_sl k (pd_m P) p + j))) : sc_M P v k B b n (p + 1) L1 := by
  have s0 := sc_sl (k := k) (m := pd_m P) (i := p)
  refine sc_fin ho hn hp h (fun q u hq hu => ?_) (fun s hs hsp => ?_) (fun s j hs hsp hks hj => ?_) h4
  · unfold sc_W
    rw [h1 (b + q) (by omega) (by omega)]
    exact ⟨Or.inl, fun z => z.elim id (fun y => (sc_nT hT y.1).elim)⟩
  · rw [h1 _ (by omega) (by omega)]
  · have s1 := sc_sl (k := k) (m := pd_m P) (i := s)
    refine h1 _ (by omega) (fun z => ?_)
    by_cases c : s < p
    · have := sc_sl_1 (k := k) (m := pd_m P) c (hk s hs hks)
      omega
    · have := sc_sl_1 (k := k) (m := pd_m P) (show p < s by omega) (hk p hp z.1)
      omega
theorem sc_kd {T : wv_T} {I : Nat → Nat → Int32} {L : Nat → Nat → Int64} {R : Nat → Nat → Option Nat} {C : Nat} {P : pd_P} {S : rn_N} {sq : List Nat} {B b len : Nat} (h : sc_E T I L R C P S sq B b len) : ∀ s, s < pd_m P → pd_k P s = 1 → I (C + 1) s = Int32.ofInt 1 := fun s hs hk => by
  rw [(h.2.1.2.2.2 s hs).1, hk]
  rfl
def sc_l3 (C B b p n a Q x : Nat) : List (Option Value) := [some (.ref C), some (.ref B), some (.int (Int32.ofNat b)), some (.int (Int32.ofNat p)), some (.int (Int32.ofNat n)), some (.int (Int32.ofNat a)), some (.ref Q), some (.int (Int32.ofNat x)), none, none, none, none, none, none]
def sc_h183 (C B b p n a m l : Nat) (U : Prop) (T : wv_T) (N : Nat) (I : Nat → Nat → Int32) (L : Nat → Nat → Int64) (R : Nat → Nat → Option Nat) : Nat → Option (Nat → wv_P) := fun pc =>
  if pc = 38 then some (fun mm lv st T1 N1 I1 L1 R1 nc ns => lv = sc_l3 C B b p n a (C + 9 + l) (b + m + p) ∧ st = [] ∧ T1 = T ∧ N1 = N ∧ I1 = I ∧ R1 = R ∧ nc = 0 ∧ ns = 0 ∧ L1 = L ∧ mm = 0 ∧ U) else none
def sc_c183 : wv_c1 := fun as T N I L R q => ∃ (C : Nat) (P : pd_P) (S : rn_N) (sq : List Nat) (B b len n p a : Nat) (v : Nat → Nat), as = [.ref C, .ref B, .int (Int32.ofNat b), .int (Int32.ofNat p), .int (Int32.ofNat n), .int (Int32.ofNat a)] ∧ sc_pre T I L R C P S sq B b len n p a v ∧ pd_k P p = 6 ∧ sc_pst q T N I L R C P B b n p v
set_option maxRecDepth 100000 in
theorem wM_183 : ∃ cb ci np, pt_mt 183 = some (8, cb, 8, false, some .boolean, ci, np) := ⟨_, _, _, rfl⟩
set_option maxRecDepth 100000 in
set_option maxHeartbeats 4000000 in
theorem sc_never {sc : pt_Sc} {d : Nat} : wv_C wm_fx sc (d + 1 + 1) 183 sc_c183 := by
  rintro as T N I L R q ⟨C, P, S, sq, B, b, len, n, p, a, v, rfl, ⟨hE, hM, hn, hp, hva, ha⟩, hk, h⟩ w0 HR
  obtain ⟨cb, ci, np, hm⟩ := wM_183
  have hE0 := hE
  obtain ⟨⟨⟨d0, ⟨r0, r1, r2, r3, r4, r5, r6, r7⟩, ⟨t1, t2, t3, t4, t5, t6⟩, ⟨k7, t7⟩, ⟨k8, t8⟩, ds, dc⟩, hC⟩, ⟨h8, hm155, _, hM1⟩, ⟨hSq, hsq67⟩, ⟨hsl, h10⟩, ⟨tB, hlen, hlen2, hB40⟩, ho, hh0⟩ := hE0
  obtain ⟨g1, g2, g3, g4, g5, g6, g7, g8⟩ := hM1 p hp
  have s0 := sc_sl (k := I (C + 1)) (m := pd_m P) (i := pd_m P)

  have epn := wi_onn (n := p) (by omega)
  have e1 : Int32.ofNat b + Int32.ofNat p = Int32.ofNat (b + p) := wq_ad (by omega)
  have n1 := wi_onn (n := b + p) (by omega)
  have e3 : Int32.ofNat b + I C 8 + Int32.ofNat p = Int32.ofNat (b + pd_m P + p) := by rw [h8, wq_ad (by omega), wq_ad (by omega)]
  have n3 := wi_onn (n := b + pd_m P + p) (by omega)

  obtain ⟨w, g, hD, hni, hl67⟩ := sc_seq hE hp (Or.inr hk)
  have hc184 : wv_C wm_fx sc (d + 1) 184 sc_c184 := wv_C_deep (by omega) (sc_hasBegun (d := d))
  have hc181 : wv_C wm_fx sc (d + 1) 181 sq_c181 := wv_C_deep (by omega) (sq_next (d := d))
  have hc180 : wv_C wm_fx sc (d + 1) 180 sq_c180 := wv_C_deep (by omega) (sq_accepts (d := d))
  refine wv_meth (hh := none) rfl (sp := wv_sp [(184, sc_c184), (181, sq_c181), (180, sq_c180)]) (hd := sc_h183 C B b p n a (pd_m P) (pd_l P p) (∃ i, i ≤ n ∧ nb (L B (b + p)) i = true) T N I L R) (n := 300) (n1 := 300) hm zc_183 rfl (wv_sp_ok (fun q hq => by
    rcases List.mem_cons.mp hq with h | h
    · rw [h]; exact hc184
    rcases List.mem_cons.mp h with h | h
    · rw [h]; exact hc181
    rw [List.mem_singleton.mp h]; exact hc180)) ?_ ?_ HR
  · refine ⟨_, tB, by rw [e1]; exact pp_b (c := len) (by omega) (by omega), ?_⟩
    rw [e1, n1]
    refine ⟨_, n, rfl, by omega, ?_⟩
    refine ⟨fun w => ?_, fun w => ?_⟩
    · have w := wb_i_1.mp w
      refine ⟨d0, _, r6, d0, _, r4, _, t5, pp_b (c := 155) (by omega) (by omega), ?_⟩
      rw [epn, g5]
      refine ⟨_, _, _, t7, pp_b (c := 67) hl67 (by omega), by rw [wi_onn (by omega)]; exact (ds _ hl67).1, ?_⟩
      refine ⟨d0, ?_⟩
      exact ⟨_, by unfold sc_l3; rw [← e3]; rfl, rfl, rfl, rfl, rfl, rfl, rfl, rfl, rfl, rfl, sc_any_i.mp w⟩
    · have w := wb_i_2.mp w
      have nU : ∀ i, i ≤ n → ¬ nb (L B (b + p)) i = true := fun i hi z => by
        rw [sc_any_i.mpr ⟨i, hi, z⟩] at w
        cases w
      refine ⟨⟨rfl, rfl⟩, h L false (sc_fin0 ho hn hp (sc_kd hE) hM (by omega) (fun _ _ _ => rfl) ⟨fun z => by omega, fun _ t ht => ?_, fun z => by omega, fun z => by omega⟩) ⟨fun z => (by cases z), fun z => ?_⟩ sc_FB_r⟩
      · have hX := (hM.2 p hp).2.1 hk
        rw [if_neg (by omega)] at hX
        rw [hX t ht]
        exact ⟨fun ⟨i, z1, ⟨i0, z2, z3⟩, _⟩ => (nU i0 (by omega) z3).elim, fun ⟨i, z1, ⟨i0, z2, z3⟩, _⟩ => (nU i0 (by omega) z3).elim⟩
      · rcases z with z | z | ⟨_, i, z1, ⟨i0, z2, z3⟩, _⟩ | z
        · omega
        · omega
        · exact (nU i0 (by omega) z3).elim
        · omega
  · intro pc P hP m lv st T1 N1 I1 L1 R1 nc ns hh
    unfold sc_h183 at hP
    split at hP
    · cases hP
      rename_i hpc
      subst hpc
      obtain ⟨rfl, rfl, rfl, rfl, rfl, rfl, rfl, rfl, rfl, rfl, i0, hi0, hb0⟩ := hh
      refine ⟨_, tB, pp_b (c := len) (by omega) (by omega), ?_⟩
      rw [n3]
      refine ⟨hD.1, C + 9 + pd_l P p, w, g, a, pd_a P p, _, rfl, hD, ha, fun y hy => ?_⟩
      refine ⟨_, tB, pp_b (c := len) (by omega) (by omega), hB40, ?_⟩
      refine ⟨_, tB, pp_b (c := len) (by omega) (by omega), ?_⟩
      rw [n3, wv_u_at]
      have hX := (hM.2 p hp).2.1 hk
      rw [if_neg (by omega)] at hX
      have hX2 : sc_x (pd_a P p) v (fun i => ∃ i0, i0 ≤ i ∧ sc_W L1 B b p i0) (n + 1) y := by
        refine sc_x_s hX hD.2.2.2.2.2.1 (X0 := L1 B (b + pd_m P + p) ||| Int64.ofNat 1) (fun s hs => ?_) (fun t ht => ?_)
        · rw [nb_or, nb_1, Bool.or_eq_true, decide_eq_true_iff]
          exact ⟨fun z => z.elim Or.inl (fun e => Or.inr ⟨⟨i0, hi0, hb0⟩, e⟩), fun z => z.elim Or.inl (fun e => Or.inr e.2)⟩
        · rw [hy t ht, hva]
          exact ⟨fun ⟨s, s1, s2, s3, s4⟩ => ⟨s, s1, s2, (sc_ni hni).mp s3, s4⟩, fun ⟨s, s1, s2, s3, s4⟩ => ⟨s, s1, s2, (sc_ni hni).mpr s3, s4⟩⟩
      have acc := sc_x_a hX2 hD.2.2.2.2.2.1 hD.2.2.2.2.2.2.1
      have fin : ∀ f : Bool, (f = true ↔ ∃ t, t < 64 ∧ nb y t = true ∧ nb (L1 (C + 9 + pd_l P p) 4) t = true) → q (.inl (some (.int (wb_i f)))) T1 N1 I1 (wv_u L1 B (b + pd_m P + p) y) R1 0 0 := fun f hf => by
        refine h _ f (sc_fin0 ho hn hp (sc_kd hE) hM (by omega) (fun j j1 _ => wv_u_no _ _ (by omega)) ⟨fun z => by omega, fun _ => ?_, fun z => by omega, fun z => by omega⟩) (hf.trans (acc.trans ⟨fun ⟨i, z1, z2, z3⟩ => Or.inr (Or.inr (Or.inl ⟨hk, i, by omega, z2, z3⟩)), fun z => ?_⟩)) (sc_FB_u sc_FB_r (by omega) (by omega))
        · rw [wv_u_at]
          exact hX2
        · rcases z with z | z | ⟨_, i, z1, z2, z3⟩ | z
          · omega
          · omega
          · exact ⟨i, by omega, z2, z3⟩
          · omega
      have e4 : wv_u L1 B (b + pd_m P + p) y (C + 9 + pd_l P p) 4 = L1 (C + 9 + pd_l P p) 4 := wv_u_no _ _ (fun z => (hh0.2.2 _ hl67).1 z.1.symm)
      refine ⟨hD.1, C + 9 + pd_l P p, y, rfl, hD.1, fun z => ⟨⟨rfl, rfl⟩, ?_⟩, fun z => ⟨⟨rfl, rfl⟩, ?_⟩⟩
      · rw [e4] at z
        exact fin true ⟨fun _ => z, fun _ => rfl⟩
      · rw [e4] at z
        exact fin false ⟨fun z2 => (by cases z2), fun z2 => (z z2).elim⟩
    · cases hP
def sc_l5 (C B b p n a : Nat) (x : Nat) (x7 x8 : Option Value) : List (Option Value) := [some (.ref C), some (.ref B), some (.int (Int32.ofNat b)), some (.int (Int32.ofNat p)), some (.int (Int32.ofNat n)), some (.int (Int32.ofNat a)), some (.int (Int32.ofNat x)), x7, x8, none, none, none, none, none, none]
def sc_h185 (C B b p n a m : Nat) (act c : Prop) (T : wv_T) (N : Nat) (I : Nat → Nat → Int32) (L : Nat → Nat → Int64) (R : Nat → Nat → Option Nat) : Nat → Option (Nat → wv_P) := fun pc =>
  if pc = 37 then some (fun mm lv st T1 N1 I1 L1 R1 nc ns => ∃ f : Bool, lv = sc_l5 C B b p n a (b + m + p) none none ∧ st = [.int (wb_i f)] ∧ T1 = T ∧ N1 = N ∧ I1 = I ∧ R1 = R ∧ nc = 0 ∧ ns = 0 ∧ L1 = L ∧ mm = 5 ∧ (f = true ↔ act))
  else if pc = 52 then some (fun mm lv st T1 N1 I1 L1 R1 nc ns => ∃ f g : Bool, lv = sc_l5 C B b p n a (b + m + p) (some (.int (wb_i f))) (some (.int (wb_i g))) ∧ st = [] ∧ T1 = T ∧ N1 = N ∧ I1 = I ∧ R1 = R ∧ nc = 0 ∧ ns = 0 ∧ L1 = L ∧ mm = 4 ∧ (f = true ↔ act) ∧ (g = true ↔ c))
  else if pc = 70 then some (fun mm lv st T1 N1 I1 L1 R1 nc ns => ∃ (f g : Bool) (x : Int64), lv = sc_l5 C B b p n a (b + m + p) (some (.int (wb_i f))) (some (.int (wb_i g))) ∧ st = [.long x, .int (Int32.ofNat (b + m + p)), .ref B] ∧ T1 = T ∧ N1 = N ∧ I1 = I ∧ R1 = R ∧ nc = 0 ∧ ns = 0 ∧ L1 = L ∧ mm = 3 ∧ (f = true ↔ act) ∧ ((x = Int64.ofNat 1 ∧ act ∧ ¬ c) ∨ (x = Int64.ofNat 0 ∧ ¬ (act ∧ ¬ c))))
  else if pc = 71 then some (fun mm lv st T1 N1 I1 L1 R1 nc ns => ∃ (f g : Bool) (x : Int64), lv = sc_l5 C B b p n a (b + m + p) (some (.int (wb_i f))) (some (.int (wb_i g))) ∧ st = [] ∧ T1 = T ∧ N1 = N ∧ I1 = I ∧ R1 = R ∧ nc = 0 ∧ ns = 0 ∧ L1 = wv_u L B (b + m + p) x ∧ mm = 2 ∧ (f = true ↔ act) ∧ ((x = Int64.ofNat 1 ∧ act ∧ ¬ c) ∨ (x = Int64.ofNat 0 ∧ ¬ (act ∧ ¬ c))))
  else none
theorem sc_op_s {P : pd_P} {v : Nat → Nat} {W : Nat → Nat → Prop} {p n : Nat} : sc_op P v W p (n + 1) ↔ (sc_op P v W p n ∨ W p n) ∧ ¬ pd_c P p (v n) = true := by
  unfold sc_op
  constructor
  · rintro ⟨i, a, b, c⟩
    have cn := c n (by omega) (by omega)
    refine ⟨?_, by rw [cn]; decide⟩
    by_cases e : i = n
    · subst e
      exact Or.inr b
    · exact Or.inl ⟨i, by omega, b, fun u u1 u2 => c u u1 (by omega)⟩
  · rintro ⟨⟨i, a, b, c⟩ | b, d⟩
    · refine ⟨i, by omega, b, fun u u1 u2 => ?_⟩
      by_cases e : u = n
      · subst e
        exact Bool.eq_false_iff.mpr d
      · exact c u u1 (by omega)
    · refine ⟨n, by omega, b, fun u u1 u2 => ?_⟩
      have e : u = n := by omega
      subst e
      exact Bool.eq_false_iff.mpr d
theorem sc_op_a {P : pd_P} {v : Nat → Nat} {W : Nat → Nat → Prop} {p n : Nat} : (sc_op P v W p n ∨ W p n) ↔ ∃ i, i ≤ n ∧ W p i ∧ ∀ u, i ≤ u → u < n → pd_c P p (v u) = false := by
  constructor
  · rintro (⟨i, a, b, c⟩ | b)
    · exact ⟨i, by omega, b, c⟩
    · exact ⟨n, Nat.le_refl _, b, fun u u1 u2 => by omega⟩
  · rintro ⟨i, a, b, c⟩
    by_cases e : i = n
    · subst e
      exact Or.inr b
    · exact Or.inl ⟨i, by omega, b, c⟩
theorem sc_op_u {P : pd_P} {v : Nat → Nat} {W : Nat → Nat → Prop} {p n : Nat} : sc_op P v W p (n + 1) ↔ ∃ i, i ≤ n ∧ W p i ∧ ∀ x, i ≤ x → x ≤ n → pd_c P p (v x) = false := by
  unfold sc_op
  constructor
  · rintro ⟨i, a, b, c⟩
    exact ⟨i, by omega, b, fun x x1 x2 => c x x1 (by omega)⟩
  · rintro ⟨i, a, b, c⟩
    exact ⟨i, by omega, b, fun x x1 x2 => c x x1 (by omega)⟩
def sc_c185 : wv_c1 := fun as T N I L R q => ∃ (C : Nat) (P : pd_P) (S : rn_N) (sq : List Nat) (B b len n p a : Nat) (v : Nat → Nat), as = [.ref C, .ref B, .int (Int32.ofNat b), .int (Int32.ofNat p), .int (Int32.ofNat n), .int (Int32.ofNat a)] ∧ sc_pre T I L R C P S sq B b len n p a v ∧ (pd_k P p = 8 ∨ pd_k P p = 9) ∧ sc_pst q T N I L R C P B b n p v
set_option maxRecDepth 100000 in
theorem wM_185 : ∃ cb ci np, pt_mt 185 = some (8, cb, 9, false, some .boolean, ci, np) := ⟨_, _, _, rfl⟩
set_option maxRecDepth 100000 in
set_option maxHeartbeats 4000000 in
theorem sc_open {sc : pt_Sc} {d : Nat} : wv_C wm_fx sc (d + 1 + 1) 185 sc_c185 := by
  rintro as T N I L R q ⟨C, P, S, sq, B, b, len, n, p, a, v, rfl, ⟨hE, hM, hn, hp, hva, ha⟩, hk, h⟩ w0 HR
  obtain ⟨cb, ci, np, hm⟩ := wM_185
  have hE0 := hE
  obtain ⟨⟨⟨d0, ⟨r0, r1, r2, r3, r4, r5, r6, r7⟩, ⟨t1, t2, t3, t4, t5, t6⟩, ⟨k7, t7⟩, ⟨k8, t8⟩, ds, dc⟩, hC⟩, ⟨h8, hm155, _, hM1⟩, ⟨hSq, hsq67⟩, ⟨hsl, h10⟩, ⟨tB, hlen, hlen2, hB40⟩, ho, hh0⟩ := hE0
  obtain ⟨g1, g2, g3, g4, g5, g6, g7, g8⟩ := hM1 p hp
  have s0 := sc_sl (k := I (C + 1)) (m := pd_m P) (i := pd_m P)

  have epn := wi_onn (n := p) (by omega)
  have e1 : Int32.ofNat b + Int32.ofNat p = Int32.ofNat (b + p) := wq_ad (by omega)
  have n1 := wi_onn (n := b + p) (by omega)
  have e3 : Int32.ofNat b + I C 8 + Int32.ofNat p = Int32.ofNat (b + pd_m P + p) := by rw [h8, wq_ad (by omega), wq_ad (by omega)]
  have n3 := wi_onn (n := b + pd_m P + p) (by omega)

  have hX := (hM.2 p hp).2.2.1 hk
  rw [if_neg (by omega)] at hX
  have hc178 : wv_C wm_fx sc (d + 1) 178 sc_c178 := wv_C_deep (by omega) (sc_isIn (d := d))
  refine wv_meth (hh := none) rfl (sp := wv_sp [(178, sc_c178)]) (hd := sc_h185 C B b p n a (pd_m P) (sc_op P v (sc_W L B b) p n ∨ sc_W L B b p n) (pd_c P p a = true) T N I L R) (n := 300) (n1 := 300) hm zc_185 rfl (wv_sp_ok (fun q hq => by rw [List.mem_singleton.mp hq]; exact hc178)) ?_ ?_ HR
  · refine ⟨d0, _, tB, by rw [e3]; exact pp_b (c := len) (by omega) (by omega), ?_⟩
    rw [e3, n3]
    refine ⟨fun w => ?_, fun w => ?_⟩
    · have w : ¬ L B (b + pd_m P + p) = Int64.ofNat 0 := fun z => w (lg_cmp_0.mpr z)
      refine ⟨_, true, rfl, rfl, rfl, rfl, rfl, rfl, rfl, rfl, rfl, rfl, ⟨fun _ => Or.inl ?_, fun _ => rfl⟩⟩
      rcases hX with z | z
      · exact z.2
      · exact (w z.1).elim
    have w : L B (b + pd_m P + p) = Int64.ofNat 0 := lg_cmp_0.mp (Decidable.not_not.mp w)
    have nop : ¬ sc_op P v (sc_W L B b) p n := by
      rcases hX with z | z
      · rw [z.1] at w
        exact absurd w (by decide)
      · exact z.2
    refine ⟨_, tB, by rw [e1]; exact pp_b (c := len) (by omega) (by omega), ?_⟩
    rw [e1, n1]
    refine ⟨_, n, rfl, by omega, ?_⟩
    refine ⟨fun w2 => ?_, fun w2 => ?_⟩
    · have w2 := wb_i_2.mp (fun z => z w2)
      refine ⟨_, false, rfl, rfl, rfl, rfl, rfl, rfl, rfl, rfl, rfl, rfl, ⟨fun z => (by cases z), fun z => ?_⟩⟩
      rcases z with z | z
      · exact (nop z).elim
      · have z : nb (L B (b + p)) n = true := z
        rw [w2] at z
        cases z
    · have w2 := wb_i_1.mp w2
      exact ⟨_, true, rfl, rfl, rfl, rfl, rfl, rfl, rfl, rfl, rfl, rfl, ⟨fun _ => Or.inr w2, fun _ => rfl⟩⟩
  · intro pc P hP m lv st T1 N1 I1 L1 R1 nc ns hh
    unfold sc_h185 at hP
    by_cases p37 : pc = 37
    · rw [if_pos p37] at hP
      cases hP
      subst p37
      obtain ⟨f, rfl, rfl, rfl, rfl, rfl, rfl, rfl, rfl, rfl, rfl, hf⟩ := hh
      refine ⟨d0, _, r1, _, t2, pp_b (c := 155) (by omega) (by omega), ?_⟩
      rw [epn]
      refine ⟨_, a, rfl, ha, ?_⟩
      exact ⟨4, by omega, f, nb (L1 (C + 2) p) a, rfl, rfl, rfl, rfl, rfl, rfl, rfl, rfl, rfl, rfl, hf, by rw [g7 a ha]⟩
    rw [if_neg p37] at hP
    by_cases p52 : pc = 52
    · rw [if_pos p52] at hP
      cases hP
      subst p52
      obtain ⟨f, g, rfl, rfl, rfl, rfl, rfl, rfl, rfl, rfl, rfl, rfl, hf, hg⟩ := hh
      refine ⟨fun w => ?_, fun w => ?_⟩
      · have w := wb_i_2.mp (fun z => z w)
        exact ⟨3, by omega, f, g, _, rfl, rfl, rfl, rfl, rfl, rfl, rfl, rfl, rfl, rfl, hf, Or.inr ⟨rfl, fun z => by rw [hf.mpr z.1] at w; cases w⟩⟩
      have w := wb_i_1.mp w
      refine ⟨fun w2 => ?_, fun w2 => ?_⟩
      · have w2 := wb_i_1.mp w2
        exact ⟨3, by omega, f, g, _, rfl, rfl, rfl, rfl, rfl, rfl, rfl, rfl, rfl, rfl, hf, Or.inr ⟨rfl, fun z => z.2 (hg.mp w2)⟩⟩
      · have w2 := wb_i_2.mp w2
        exact ⟨3, by omega, f, g, _, rfl, rfl, rfl, rfl, rfl, rfl, rfl, rfl, rfl, rfl, hf, Or.inl ⟨rfl, hf.mp w, fun z => by rw [hg.mpr z] at w2; cases w2⟩⟩
    rw [if_neg p52] at hP
    by_cases p70 : pc = 70
    · rw [if_pos p70] at hP
      cases hP
      subst p70
      obtain ⟨f, g, x, rfl, rfl, rfl, rfl, rfl, rfl, rfl, rfl, rfl, rfl, hf, hx⟩ := hh
      refine ⟨_, tB, pp_b (c := len) (by omega) (by omega), hB40, ?_⟩
      rw [n3]
      exact ⟨2, by omega, f, g, x, rfl, rfl, rfl, rfl, rfl, rfl, rfl, rfl, rfl, rfl, hf, hx⟩
    rw [if_neg p70] at hP
    by_cases p71 : pc = 71
    · rw [if_pos p71] at hP
      cases hP
      subst p71
      obtain ⟨f, g, x, rfl, rfl, rfl, rfl, rfl, rfl, rfl, rfl, rfl, rfl, hf, hx⟩ := hh
      have hB3 : ∀ j, wv_u L B (b + pd_m P + p) x (C + 3) j = L (C + 3) j := fun j => wv_u_no _ _ (fun z => hh0.2.1 z.1.symm)
      have hX2 : (x = Int64.ofNat 1 ∧ sc_op P v (sc_W L B b) p (n + 1)) ∨ (x = Int64.ofNat 0 ∧ ¬ sc_op P v (sc_W L B b) p (n + 1)) := by
        rw [sc_op_s, hva]
        exact hx
      have c9 := ap_k (a := pd_k P p) (b := 9) (k := (Int8.ofInt 9).toInt32) (by omega) (by omega) rfl
      refine ⟨d0, _, r0, _, t1, pp_b (c := 155) (by omega) (by omega), ?_⟩
      rw [epn, g1]
      refine ⟨fun w => ?_, fun w => ?_⟩
      · have w : pd_k P p = 8 := by
          have : ¬ pd_k P p = 9 := fun z => w (c9.mpr z)
          omega
        have hT : ∀ q, sc_T P p q ↔ q = p + 1 := fun q => ⟨fun z => by
          rcases z with ⟨z, _⟩ | ⟨z, _⟩
          · exact z
          · omega, fun z => Or.inl ⟨z, by omega⟩⟩
        have hp1 : p + 1 < pd_m P := (ho.1 p (p + 1) hp ((hT _).mpr rfl)).2
        have e5 : Int32.ofNat (b + p) + Int32.ofInt 1 = Int32.ofNat (b + p + 1) := wq_4s _
        have n5 := wi_onn (n := b + p + 1) (by omega)
        refine ⟨_, tB, by rw [e1, e5]; exact pp_b (c := len) (by omega) (by omega), ?_⟩
        refine ⟨_, tB, pp_b (c := len) (by omega) (by omega), ?_⟩
        rw [e1, e5, n5, n3, wv_u_at, wv_u_no _ _ (by omega)]
        refine ⟨_, tB, pp_b (c := len) (by omega) (by omega), hB40, ?_⟩
        rw [n5]
        have hbit : ∀ u, u < 64 → (nb (x <<< ((Int32.ofNat n).toInt64 &&& 63)) u = true ↔ u = n ∧ sc_op P v (sc_W L B b) p (n + 1)) := fun u hu => by
          rcases hX2 with ⟨rfl, z⟩ | ⟨rfl, z⟩
          · rw [nb_one (by omega), decide_eq_true_iff]
            exact ⟨fun y => ⟨y, z⟩, fun y => y.1⟩
          · rw [nb_shl (by omega)]
            have e0 : nb (Int64.ofNat 0) (u - n) = false := nb_0 _
            rw [e0, Bool.and_false]
            exact ⟨fun y => (by cases y), fun y => (z y.2).elim⟩
        refine ⟨⟨rfl, rfl⟩, h _ false (sc_fin ho hn hp hM (fun q u hq hu => ?_) (fun s hs hsp => ?_) (fun s j hs hsp hks hj => ?_) ⟨fun z => by omega, fun z => by omega, fun _ => ?_, fun z => by omega⟩) ⟨fun z => (by cases z), fun z => ?_⟩ (sc_FB_u (sc_FB_u sc_FB_r (by omega) (by omega)) (by omega) (by omega))⟩
        · unfold sc_W
          rw [hT]
          by_cases e : q = p + 1
          · subst e
            rw [show b + (p + 1) = b + p + 1 by omega, wv_u_at, nb_or, Bool.or_eq_true, hbit u hu, sc_op_u]
            constructor
            · rintro (z | ⟨z1, z2⟩)
              · exact Or.inl z
              · exact Or.inr ⟨rfl, Or.inr (Or.inr (Or.inr (Or.inr (Or.inr (Or.inl ⟨w, z1, z2⟩)))))⟩
            · rintro (z | ⟨_, z⟩)
              · exact Or.inl z
              · rcases z with ⟨z, _⟩ | ⟨z, _⟩ | ⟨z, _⟩ | ⟨z, _⟩ | ⟨z, _⟩ | ⟨_, z1, z2⟩ | ⟨z, _⟩
                · omega
                · omega
                · omega
                · omega
                · omega
                · exact Or.inr ⟨z1, z2⟩
                · omega
          · rw [wv_u_no _ _ (by omega), wv_u_no _ _ (by omega)]
            exact ⟨Or.inl, fun z => z.elim id (fun y => (e y.1).elim)⟩
        · rw [wv_u_no _ _ (by omega), wv_u_no _ _ (by omega)]
        · have s1 := sc_sl (k := I1 (C + 1)) (m := pd_m P) (i := s)
          rw [wv_u_no _ _ (by omega), wv_u_no _ _ (by omega)]
        · rw [wv_u_no _ _ (by omega), wv_u_at]
          exact hX2
        · rcases z with z | z | z | z <;> omega
      · have w : pd_k P p = 9 := Decidable.not_not.mp (fun z => w (fun y => z (c9.mp y)))
        have fin : ∀ f2 : Bool, (f2 = true ↔ (sc_op P v (sc_W L B b) p n ∨ sc_W L B b p n) ∧ pd_d P p a = true) → q (.inl (some (.int (wb_i f2)))) T1 N1 I1 (wv_u L B (b + pd_m P + p) x) R1 0 0 := fun f2 hf2 => by
          refine h _ f2 (sc_fin0 ho hn hp (sc_kd hE) hM (by omega) (fun j j1 _ => wv_u_no _ _ (by omega)) ⟨fun z => by omega, fun z => by omega, fun _ => by rw [wv_u_at]; exact hX2, fun z => by omega⟩) (hf2.trans ⟨fun z => Or.inr (Or.inr (Or.inr ⟨w, sc_op_a.mp z.1, by rw [hva]; exact z.2⟩)), fun z => ?_⟩) (sc_FB_u sc_FB_r (by omega) (by omega))
          rcases z with z | z | z | ⟨_, z1, z2⟩
          · omega
          · omega
          · omega
          · rw [hva] at z2
            exact ⟨sc_op_a.mpr z1, z2⟩
        refine ⟨fun w2 => ?_, fun w2 => ?_⟩
        · have w2 := wb_i_2.mp (fun z => z w2)
          exact ⟨⟨rfl, rfl⟩, fin false ⟨fun z => (by cases z), fun z => by rw [hf.mpr z.1] at w2; cases w2⟩⟩
        have w2 := wb_i_1.mp w2
        refine ⟨d0, _, r2, _, t3, pp_b (c := 155) (by omega) (by omega), ?_⟩
        rw [epn, hB3]
        refine ⟨_, a, rfl, ha, ?_⟩
        rw [g8 a ha]
        refine ⟨fun w3 => ?_, fun w3 => ?_⟩
        · have w3 := wb_i_2.mp (fun z => z w3)
          exact ⟨⟨rfl, rfl⟩, fin false ⟨fun z => (by cases z), fun z => by rw [w3] at z; cases z.2⟩⟩
        · have w3 := wb_i_1.mp w3
          exact ⟨⟨rfl, rfl⟩, fin true ⟨fun _ => ⟨hf.mp w2, w3⟩, fun _ => rfl⟩⟩
    rw [if_neg p71] at hP
    cases hP
