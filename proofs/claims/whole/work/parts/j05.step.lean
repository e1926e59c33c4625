/-! ===== the class: rows that lead on ===== -/
theorem sc_a0 {A : nt_A} {w : Nat → Option Nat} {i : Nat} : nt_a A w i i ↔ nz_F A 0 := by
  have h := nz_s_a (A := A) (w := w) (i := i) (n := 0)
  rw [Nat.add_zero] at h
  rw [h]
  constructor
  · rintro ⟨t, h1, h2⟩
    rw [nz_s_0.mp h1] at h2
    exact h2
  · exact fun h2 => ⟨0, nz_s_0.mpr rfl, h2⟩
theorem sc_bit {x : Int64} {n u : Nat} (hn : n < 64) : nb (x ||| (Int64.ofNat 1 <<< ((Int32.ofNat n).toInt64 &&& 63))) u = true ↔ nb x u = true ∨ u = n := by
  rw [nb_or, Bool.or_eq_true, nb_one hn, decide_eq_true_iff]
def sc_l2 (C B b p n a Q x : Nat) (f g : Bool) : List (Option Value) := [some (.ref C), some (.ref B), some (.int (Int32.ofNat b)), some (.int (Int32.ofNat p)), some (.int (Int32.ofNat n)), some (.int (Int32.ofNat a)), some (.ref Q), some (.int (wb_i f)), some (.int (Int32.ofNat x)), some (.int (wb_i g)), none, none, none, none, none, none]
/-- one word took in more -/
def sc_V (B j : Nat) (L L1 : Nat → Nat → Int64) (add : Nat → Prop) : Prop := (∀ c k, ¬ (c = B ∧ k = j) → L1 c k = L c k) ∧ ∀ u, u < 64 → (nb (L1 B j) u = true ↔ nb (L B j) u = true ∨ add u)
def sc_e3 (P : pd_P) (v : Nat → Nat) (W : Nat → Nat → Prop) (p n u : Nat) : Prop := u = n ∧ pd_k P p = 3 ∧ W p n ∧ nt_a (pd_a P p) (pd_w v) n n
def sc_h182 (C B b p n a m l : Nat) (P : pd_P) (v : Nat → Nat) (T : wv_T) (N : Nat) (I : Nat → Nat → Int32) (L : Nat → Nat → Int64) (R : Nat → Nat → Option Nat) : Nat → Option (Nat → wv_P) := fun pc =>
  if pc = 52 then some (fun mm lv st T1 N1 I1 L1 R1 nc ns => lv = sc_l2 C B b p n a (C + 9 + l) (b + m + p) (nb (L B (b + p)) n) (decide (pd_k P p = 3)) ∧ st = [] ∧ T1 = T ∧ N1 = N ∧ I1 = I ∧ R1 = R ∧ nc = 0 ∧ ns = 0 ∧ L1 = L ∧ mm = 10)
  else if pc = 85 then some (fun mm lv st T1 N1 I1 L1 R1 nc ns => lv = sc_l2 C B b p n a (C + 9 + l) (b + m + p) (nb (L B (b + p)) n) (decide (pd_k P p = 3)) ∧ st = [] ∧ T1 = T ∧ N1 = N ∧ I1 = I ∧ R1 = R ∧ nc = 0 ∧ ns = 0 ∧ sc_V B (b + p + 1) L L1 (sc_e3 P v (sc_W L B b) p n) ∧ mm = 9)
  else if pc = 111 then some (fun mm lv st T1 N1 I1 L1 R1 nc ns => ∃ (L2 : Nat → Nat → Int64) (y : Int64), lv = sc_l2 C B b p n a (C + 9 + l) (b + m + p) (nb (L B (b + p)) n) (decide (pd_k P p = 3)) ∧ st = [] ∧ T1 = T ∧ N1 = N ∧ I1 = I ∧ R1 = R ∧ nc = 0 ∧ ns = 0 ∧ sc_V B (b + p + 1) L L2 (sc_e3 P v (sc_W L B b) p n) ∧ L1 = wv_u L2 B (b + m + p) y ∧ sc_x (pd_a P p) v (sc_W L B b p) (n + 1) y ∧ mm = 8)
  else none
def sc_c182 : wv_c1 := fun as T N I L R q => ∃ (C : Nat) (P : pd_P) (S : rn_N) (sq : List Nat) (B b len n p a : Nat) (v : Nat → Nat), as = [.ref C, .ref B, .int (Int32.ofNat b), .int (Int32.ofNat p), .int (Int32.ofNat n), .int (Int32.ofNat a)] ∧ sc_pre T I L R C P S sq B b len n p a v ∧ (pd_k P p = 2 ∨ pd_k P p = 3) ∧ ∀ L1, sc_M P v (I (C + 1)) B b n (p + 1) L1 → sc_FB B b (pp_sl (I (C + 1)) (pd_m P) (pd_m P)) L L1 → q (.inl none) T N I L1 R 0 0
set_option maxRecDepth 100000 in
theorem wM_182 : ∃ cb ci np, pt_mt 182 = some (8, cb, 10, false, none, ci, np) := ⟨_, _, _, rfl⟩
set_option maxRecDepth 100000 in
set_option maxHeartbeats 4000000 in
theorem sc_rows {sc : pt_Sc} {d : Nat} : wv_C wm_fx sc (d + 1 + 1) 182 sc_c182 := by
  rintro as T N I L R q ⟨C, P, S, sq, B, b, len, n, p, a, v, rfl, ⟨hE, hM, hn, hp, hva, ha⟩, hk, h⟩ w0 HR
  obtain ⟨cb, ci, np, hm⟩ := wM_182
  have hE0 := hE
  obtain ⟨⟨⟨d0, ⟨r0, r1, r2, r3, r4, r5, r6, r7⟩, ⟨t1, t2, t3, t4, t5, t6⟩, ⟨k7, t7⟩, ⟨k8, t8⟩, ds, dc⟩, hC⟩, ⟨h8, hm155, _, hM1⟩, ⟨hSq, hsq67⟩, ⟨hsl, h10⟩, ⟨tB, hlen, hlen2, hB40⟩, ho, hh0⟩ := hE0
  obtain ⟨g1, g2, g3, g4, g5, g6, g7, g8⟩ := hM1 p hp
  have s0 := sc_sl (k := I (C + 1)) (m := pd_m P) (i := pd_m P)

  have epn := wi_onn (n := p) (by omega)
  have e1 : Int32.ofNat b + Int32.ofNat p = Int32.ofNat (b + p) := wq_ad (by omega)
  have n1 := wi_onn (n := b + p) (by omega)
  have e3 : Int32.ofNat b + I C 8 + Int32.ofNat p = Int32.ofNat (b + pd_m P + p) := by rw [h8, wq_ad (by omega), wq_ad (by omega)]
  have n3 := wi_onn (n := b + pd_m P + p) (by omega)

  obtain ⟨w, g, hD, hni, hl67⟩ := sc_seq hE hp (Or.inl (by omega))
  have hT : ∀ q, sc_T P p q ↔ q = p + 1 := fun q => ⟨fun z => by
    rcases z with ⟨z, _⟩ | ⟨z, _⟩
    · exact z
    · omega, fun z => Or.inl ⟨z, by omega⟩⟩
  have hp1 : p + 1 < pd_m P := (ho.1 p (p + 1) hp ((hT _).mpr rfl)).2
  have e5 : Int32.ofNat (b + p) + Int32.ofInt 1 = Int32.ofNat (b + p + 1) := wq_4s _
  have n5 := wi_onn (n := b + p + 1) (by omega)
  have hQB : ¬ C + 9 + pd_l P p = B := fun z => (hh0.2.2 _ hl67).1 z.symm
  have hX := (hM.2 p hp).1 hk
  rw [if_neg (by omega)] at hX
  have hF := hD.2.2.2.2.2.2.1
  have nk6 : ¬ pd_k P p = 6 := by omega
  have nk8 : ¬ (pd_k P p = 8 ∨ pd_k P p = 9) := by omega
  have nk1 : ¬ pd_k P p = 1 := by omega
  have hc178 : wv_C wm_fx sc (d + 1) 178 sc_c178 := wv_C_deep (by omega) (sc_isIn (d := d))
  have hc180 : wv_C wm_fx sc (d + 1) 180 sq_c180 := wv_C_deep (by omega) (sq_accepts (d := d))
  have hc181 : wv_C wm_fx sc (d + 1) 181 sq_c181 := wv_C_deep (by omega) (sq_next (d := d))
  refine wv_meth (hh := none) rfl (sp := wv_sp [(178, sc_c178), (180, sq_c180), (181, sq_c181)]) (hd := sc_h182 C B b p n a (pd_m P) (pd_l P p) P v T N I L R) (n := 300) (n1 := 300) hm zc_182 rfl (wv_sp_ok (fun q hq => by
    rcases List.mem_cons.mp hq with h | h
    · rw [h]; exact hc178
    rcases List.mem_cons.mp h with h | h
    · rw [h]; exact hc180
    rw [List.mem_singleton.mp h]; exact hc181)) ?_ ?_ HR
  · refine ⟨d0, _, r6, d0, _, r4, _, t5, pp_b (c := 155) (by omega) (by omega), ?_⟩
    rw [epn, g5]
    refine ⟨_, _, _, t7, pp_b (c := 67) hl67 (by omega), by rw [wi_onn (by omega)]; exact (ds _ hl67).1, ?_⟩
    refine ⟨_, tB, by rw [e1]; exact pp_b (c := len) (by omega) (by omega), ?_⟩
    rw [e1, n1]
    refine ⟨_, n, rfl, by omega, ?_⟩
    refine ⟨d0, ?_⟩
    refine ⟨d0, _, r0, _, t1, pp_b (c := 155) (by omega) (by omega), ?_⟩
    rw [epn, g1]
    have c3 := ap_k (a := pd_k P p) (b := 3) (k := Int32.ofInt 3) (by omega) (by omega) rfl
    refine ⟨fun w => ?_, fun w => ?_⟩
    · have w : ¬ pd_k P p = 3 := fun z => w (c3.mpr z)
      exact ⟨_, by unfold sc_l2; rw [decide_eq_false w, ← e3]; rfl, rfl, rfl, rfl, rfl, rfl, rfl, rfl, rfl, rfl⟩
    · have w : pd_k P p = 3 := Decidable.not_not.mp (fun z => w (fun y => z (c3.mp y)))
      exact ⟨_, by unfold sc_l2; rw [decide_eq_true w, ← e3]; rfl, rfl, rfl, rfl, rfl, rfl, rfl, rfl, rfl, rfl⟩
  · intro pc P hP m lv st T1 N1 I1 L1 R1 nc ns hh
    unfold sc_h182 at hP
    by_cases p52 : pc = 52
    · rw [if_pos p52] at hP
      cases hP
      subst p52
      obtain ⟨rfl, rfl, rfl, rfl, rfl, rfl, rfl, rfl, rfl, rfl⟩ := hh
      have same : (¬ (pd_k P p = 3 ∧ sc_W L1 B b p n ∧ nt_a (pd_a P p) (pd_w v) n n)) → sc_V B (b + p + 1) L1 L1 (sc_e3 P v (sc_W L1 B b) p n) := fun z => ⟨fun _ _ _ => rfl, fun u hu => ⟨Or.inl, fun y => y.elim id (fun y2 => (z y2.2).elim)⟩⟩
      refine ⟨fun w => ?_, fun w => ?_⟩
      · have w := of_decide_eq_false (wb_i_2.mp (fun z => z w))
        exact ⟨9, by omega, rfl, rfl, rfl, rfl, rfl, rfl, rfl, rfl, same (fun z => w z.1), rfl⟩
      have w := of_decide_eq_true (wb_i_1.mp w)
      refine ⟨fun w2 => ?_, fun w2 => ?_⟩
      · have w2 := wb_i_2.mp (fun z => z w2)
        exact ⟨9, by omega, rfl, rfl, rfl, rfl, rfl, rfl, rfl, rfl, same (fun z => by have z1 : nb (L1 B (b + p)) n = true := z.2.1; rw [w2] at z1; cases z1), rfl⟩
      have w2 := wb_i_1.mp w2
      have acc : (∃ t, t < 64 ∧ nb (Int64.ofNat 1) t = true ∧ nb (L1 (C + 9 + pd_l P p) 4) t = true) ↔ nt_a (pd_a P p) (pd_w v) n n := by
        rw [sc_a0, ← hF 0 (by omega)]
        constructor
        · rintro ⟨t, h1, h2, h3⟩
          rw [nb_1, decide_eq_true_iff] at h2
          subst h2
          exact h3
        · exact fun z => ⟨0, by omega, by rw [nb_1]; rfl, z⟩
      refine ⟨hD.1, C + 9 + pd_l P p, _, rfl, hD.1, fun z => ?_, fun z => ?_⟩
      · have z := acc.mp z
        refine ⟨fun y => absurd y (by decide), fun _ => ?_⟩
        refine ⟨_, tB, by rw [e1, e5]; exact pp_b (c := len) (by omega) (by omega), ?_⟩
        refine ⟨_, tB, by rw [e1, e5]; exact pp_b (c := len) (by omega) (by omega), hB40, ?_⟩
        rw [e1, e5, n5]
        refine ⟨9, by omega, rfl, rfl, rfl, rfl, rfl, rfl, rfl, rfl, ⟨fun c k hck => wv_u_no _ _ (by omega), fun u hu => ?_⟩, rfl⟩
        rw [wv_u_at]
        exact (sc_bit (by omega)).trans ⟨fun y => y.elim Or.inl (fun y2 => Or.inr ⟨y2, w, w2, z⟩), fun y => y.elim Or.inl (fun y2 => Or.inr y2.1)⟩
      · have z : ¬ nt_a (pd_a P p) (pd_w v) n n := fun y => z (acc.mpr y)
        refine ⟨fun _ => ?_, fun y => absurd rfl y⟩
        exact ⟨9, by omega, rfl, rfl, rfl, rfl, rfl, rfl, rfl, rfl, same (fun y => z y.2.2), rfl⟩
    rw [if_neg p52] at hP
    by_cases p85 : pc = 85
    · rw [if_pos p85] at hP
      cases hP
      subst p85
      obtain ⟨rfl, rfl, rfl, rfl, rfl, rfl, rfl, rfl, hV, rfl⟩ := hh
      have hE2 := sc_E_L hE (L1 := L1) (fun c j z => hV.1 c j (fun y => z y.1))
      obtain ⟨w9, g9, hD9, _, _⟩ := sc_seq hE2 hp (Or.inl (by omega))
      have hD2 : sq_D T1 I1 L1 R1 (C + 9 + pd_l P p) (pd_a P p) w g := by
        obtain ⟨a1, a2, a3, a4, a5, a6, a7, a8, a9⟩ := hD9
        obtain ⟨b1, b2, b3, b4, b5, b6, b7, b8, b9⟩ := hD
        refine ⟨a1, a2, b3, b4, b5, a6, a7, a8, ?_⟩
        have eg : g9 = g := by
          have := congrArg Int32.toInt (a4.symm.trans b4)
          rw [wi_on (by omega), wi_on (by omega)] at this
          omega
        rw [← eg]
        exact a9
      have eX : L1 B (b + pd_m P + p) = L B (b + pd_m P + p) := hV.1 _ _ (by omega)
      refine ⟨_, tB, pp_b (c := len) (by omega) (by omega), ?_⟩
      rw [n3]
      refine ⟨fun w2 => ?_, fun w2 => ?_⟩
      · have w2 := wb_i_2.mp (fun z => z w2)
        refine ⟨hD.1, C + 9 + pd_l P p, w, g, a, pd_a P p, _, rfl, hD2, ha, fun y hy => ?_⟩
        refine ⟨_, tB, pp_b (c := len) (by omega) (by omega), hB40, ?_⟩
        rw [n3]
        refine ⟨8, by omega, L1, y, rfl, rfl, rfl, rfl, rfl, rfl, rfl, rfl, hV, rfl, sc_x_s hX hD.2.2.2.2.2.1 (X0 := L1 B (b + pd_m P + p) ||| Int64.ofNat 0) (fun s hs => ?_) (fun t ht => ?_), rfl⟩
        · rw [nb_or, eX, Bool.or_eq_true]
          have e0 : nb (Int64.ofNat 0) s = false := nb_0 _
          rw [e0]
          exact ⟨fun z => z.elim Or.inl (fun y => by cases y), fun z => z.elim Or.inl (fun y => by have y1 : nb (L B (b + p)) n = true := y.1; rw [w2] at y1; cases y1)⟩
        · rw [hy t ht, hva]
          exact ⟨fun ⟨s, s1, s2, s3, s4⟩ => ⟨s, s1, s2, (sc_ni hni).mp s3, s4⟩, fun ⟨s, s1, s2, s3, s4⟩ => ⟨s, s1, s2, (sc_ni hni).mpr s3, s4⟩⟩
      · have w2 := wb_i_1.mp w2
        refine ⟨hD.1, C + 9 + pd_l P p, w, g, a, pd_a P p, _, rfl, hD2, ha, fun y hy => ?_⟩
        refine ⟨_, tB, pp_b (c := len) (by omega) (by omega), hB40, ?_⟩
        rw [n3]
        refine ⟨8, by omega, L1, y, rfl, rfl, rfl, rfl, rfl, rfl, rfl, rfl, hV, rfl, sc_x_s hX hD.2.2.2.2.2.1 (X0 := L1 B (b + pd_m P + p) ||| Int64.ofNat 1) (fun s hs => ?_) (fun t ht => ?_), rfl⟩
        · rw [nb_or, eX, Bool.or_eq_true]
          rw [nb_1, decide_eq_true_iff]
          exact ⟨fun z => z.elim Or.inl (fun y => Or.inr ⟨w2, y⟩), fun z => z.elim Or.inl (fun y => Or.inr y.2)⟩
        · rw [hy t ht, hva]
          exact ⟨fun ⟨s, s1, s2, s3, s4⟩ => ⟨s, s1, s2, (sc_ni hni).mp s3, s4⟩, fun ⟨s, s1, s2, s3, s4⟩ => ⟨s, s1, s2, (sc_ni hni).mpr s3, s4⟩⟩
    rw [if_neg p85] at hP
    by_cases p111 : pc = 111
    · rw [if_pos p111] at hP
      cases hP
      subst p111
      obtain ⟨L2, y, rfl, rfl, rfl, rfl, rfl, rfl, rfl, rfl, hV, rfl, hX2, rfl⟩ := hh
      refine ⟨_, tB, pp_b (c := len) (by omega) (by omega), ?_⟩
      rw [n3, wv_u_at]
      have e4 : wv_u L2 B (b + pd_m P + p) y (C + 9 + pd_l P p) 4 = L (C + 9 + pd_l P p) 4 := (wv_u_no _ _ (fun z => hQB z.1)).trans (hV.1 _ _ (fun z => hQB z.1))
      have acc := sc_x_a hX2 hD.2.2.2.2.2.1 hF
      have fin : ∀ (L3 : Nat → Nat → Int64) (add2 : Nat → Prop), sc_V B (b + p + 1) (wv_u L2 B (b + pd_m P + p) y) L3 add2 → (∀ u, u < 64 → (sc_e3 P v (sc_W L B b) p n u ∨ add2 u ↔ sc_add P v (sc_W L B b) p n u)) → q (.inl none) T1 N1 I1 L3 R1 0 0 := fun L3 add2 hV3 hadd => by
        have low : ∀ c k, ¬ (c = B ∧ (k = b + p + 1 ∨ k = b + pd_m P + p)) → L3 c k = L c k := fun c k z => by
          rw [hV3.1 c k (by omega), wv_u_no _ _ (by omega), hV.1 c k (by omega)]
        have m1 : ∀ s, s < pd_m P → ¬ s = p → L3 B (b + pd_m P + s) = L B (b + pd_m P + s) := fun s hs hsp => low _ _ (by omega)
        have m2 : sc_FB B b (pp_sl (I1 (C + 1)) (pd_m P) (pd_m P)) L L3 := fun c k z => low c k (by omega)
        have m3 : sc_x (pd_a P p) v (sc_W L B b p) (n + 1) (L3 B (b + pd_m P + p)) := by
          rw [hV3.1 _ _ (by omega), wv_u_at]
          exact hX2
        have m4 : sc_X P v (sc_W L B b) p (n + 1) (L3 B (b + pd_m P + p)) (fun j => L3 B (b + pp_sl (I1 (C + 1)) (pd_m P) p + j)) := ⟨fun _ => m3, fun z => (nk6 z).elim, fun z => (nk8 z).elim, fun z => (nk1 z).elim⟩
        refine h L3 (sc_fin ho hn hp hM (fun q2 u hq hu => ?_) m1 (fun s j hs hsp hks hj => low _ _ ?_) m4) m2
        · rw [hT]
          by_cases e : q2 = p + 1
          · subst e
            show nb (L3 B (b + p + 1)) u = true ↔ nb (L B (b + p + 1)) u = true ∨ (p + 1 = p + 1 ∧ _)
            rw [hV3.2 u hu, wv_u_no _ _ (by omega), hV.2 u hu, ← hadd u hu]
            constructor
            · rintro ((z | z) | z)
              · exact Or.inl z
              · exact Or.inr ⟨rfl, Or.inl z⟩
              · exact Or.inr ⟨rfl, Or.inr z⟩
            · rintro (z | ⟨_, z | z⟩)
              · exact Or.inl (Or.inl z)
              · exact Or.inl (Or.inr z)
              · exact Or.inr z
          · show nb (L3 B (b + q2)) u = true ↔ nb (L B (b + q2)) u = true ∨ _
            rw [low _ _ (by omega)]
            exact ⟨Or.inl, fun z => z.elim id (fun y => (e y.1).elim)⟩
        · have s1 := sc_sl (k := I1 (C + 1)) (m := pd_m P) (i := s)
          omega
      have none3 : ¬ (∃ i, i < n + 1 ∧ sc_W L B b p i ∧ nt_a (pd_a P p) (pd_w v) i (n + 1)) → ∀ u, u < 64 → (sc_e3 P v (sc_W L B b) p n u ∨ False ↔ sc_add P v (sc_W L B b) p n u) := fun z u hu => by
        constructor
        · rintro (⟨y1, y2, y3, y4⟩ | y)
          · exact Or.inr (Or.inl ⟨y2, Or.inl ⟨y1, y3, y4⟩⟩)
          · exact y.elim
        · rintro (⟨_, _, i, i1, i2, i3⟩ | ⟨k3, ⟨i1, i2, i3⟩ | ⟨_, i, i1, i2, i3⟩⟩ | ⟨y, _⟩ | ⟨y, _⟩ | ⟨y, _⟩ | ⟨y, _⟩ | ⟨y, _⟩)
          · exact (z ⟨i, by omega, i2, i3⟩).elim
          · exact Or.inl ⟨i1, k3, i2, i3⟩
          · exact (z ⟨i, by omega, i2, i3⟩).elim
          all_goals omega
      refine ⟨hD.1, C + 9 + pd_l P p, y, rfl, hD.1, fun z => ?_, fun z => ?_⟩
      · rw [e4] at z
        have z := acc.mp z
        refine ⟨fun y0 => absurd y0 (by decide), fun _ => ?_⟩
        refine ⟨_, tB, by rw [e1, e5]; exact pp_b (c := len) (by omega) (by omega), ?_⟩
        rw [e1, e5, n5]
        obtain ⟨i, z1, z2, z3⟩ := z
        refine ⟨fun w2 => ?_, fun w2 => ?_⟩
        · have w2 : pd_k P p = 2 := hk.elim id (fun z => (of_decide_eq_false (wb_i_2.mp (fun z => z w2)) z).elim)
          refine ⟨_, tB, pp_b (c := len) (by omega) (by omega), hB40, ?_⟩
          rw [n5]
          refine fin _ (fun u => u = n) ⟨fun c k hck => wv_u_no _ _ (by omega), fun u hu => ?_⟩ (fun u hu => ?_)
          · rw [wv_u_at]
            exact sc_bit (by omega)
          · constructor
            · rintro (⟨_, y2, _⟩ | y1)
              · omega
              · exact Or.inl ⟨w2, y1, i, by omega, z2, z3⟩
            · rintro (⟨_, y1, _⟩ | ⟨y1, _⟩ | ⟨y1, _⟩ | ⟨y1, _⟩ | ⟨y1, _⟩ | ⟨y1, _⟩ | ⟨y1, _⟩)
              · exact Or.inr y1
              all_goals omega
        · have w2 := of_decide_eq_true (wb_i_1.mp w2)
          have en : Int32.ofNat n + Int32.ofInt 1 = Int32.ofNat (n + 1) := wq_4s n
          refine ⟨_, tB, pp_b (c := len) (by omega) (by omega), hB40, ?_⟩
          rw [n5, en]
          refine fin _ (fun u => u = n + 1) ⟨fun c k hck => wv_u_no _ _ (by omega), fun u hu => ?_⟩ (fun u hu => ?_)
          · rw [wv_u_at]
            exact sc_bit (by omega)
          · constructor
            · rintro (⟨y1, y2, y3, y4⟩ | y1)
              · exact Or.inr (Or.inl ⟨y2, Or.inl ⟨y1, y3, y4⟩⟩)
              · exact Or.inr (Or.inl ⟨w2, Or.inr ⟨y1, i, by omega, z2, z3⟩⟩)
            · rintro (⟨y1, _⟩ | ⟨k3, ⟨i1, i2, i3⟩ | ⟨y1, _⟩⟩ | ⟨y1, _⟩ | ⟨y1, _⟩ | ⟨y1, _⟩ | ⟨y1, _⟩ | ⟨y1, _⟩)
              · omega
              · exact Or.inl ⟨i1, k3, i2, i3⟩
              · exact Or.inr y1
              all_goals omega
      · rw [e4] at z
        have z := fun y => z (acc.mpr y)
        refine ⟨fun _ => ?_, fun y0 => absurd rfl y0⟩
        exact fin _ (fun _ => False) ⟨fun _ _ _ => rfl, fun u hu => ⟨Or.inl, fun y0 => y0.elim id False.elim⟩⟩ (none3 z)
    rw [if_neg p111] at hP
    cases hP
