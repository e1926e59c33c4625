/-! ===== the class: plain rows ===== -/
set_option maxRecDepth 100000 in
theorem sc_l2i : ∀ k : Fin 30, (Int64.ofNat k.1).toInt32 = Int32.ofNat k.1 := by decide +kernel
set_option maxRecDepth 100000 in
theorem sc_i2l : ∀ k : Fin 30, (Int32.ofNat k.1).toInt64 = Int64.ofNat k.1 := by decide +kernel
def sc_l9 (C B b p a Q x c : Nat) (f : Bool) (r : List (Option Value)) : List (Option Value) := some (.ref C) :: some (.ref B) :: some (.int (Int32.ofNat b)) :: some (.int (Int32.ofNat p)) :: some (.int (wb_i f)) :: some (.int (Int32.ofNat a)) :: some (.ref Q) :: some (.int (Int32.ofNat x)) :: some (.int (Int32.ofNat c)) :: r
def sc_r0 : List (Option Value) := [none, none, none, none, none, none, none, none, none, none, none]
def sc_r1 (f : Bool) (k j : Nat) (x12 x13 : Option Value) : List (Option Value) := [some (.int (wb_i f)), some (.int (Int32.ofNat k)), some (.int (Int32.ofNat j)), x12, x13, none, none, none, none, none, none]
/-- only the slots change -/
def sc_Vs (B x : Nat) (L L1 : Nat → Nat → Int64) : Prop := ∀ c k, ¬ (c = B ∧ x ≤ k ∧ k < x + 24) → L1 c k = L c k
def sc_h179 (C B b p n a x Q : Nat) (fb : Bool) (c0 : Nat) (A : nt_A) (v : Nat → Nat) (U : Nat → Prop) (T : wv_T) (N : Nat) (I : Nat → Nat → Int32) (L : Nat → Nat → Int64) (R : Nat → Nat → Option Nat) : Nat → Option (Nat → wv_P) := fun pc =>
  if pc = 36 then some (fun mm lv st T1 N1 I1 L1 R1 nc ns => lv = sc_l9 C B b p a Q x c0 fb sc_r0 ∧ st = [] ∧ T1 = T ∧ N1 = N ∧ I1 = I ∧ R1 = R ∧ nc = 0 ∧ ns = 0 ∧ L1 = L ∧ mm = 1000)
  else if pc = 68 then some (fun mm lv st T1 N1 I1 L1 R1 nc ns => ∃ c : Nat, lv = sc_l9 C B b p a Q x c fb sc_r0 ∧ st = [] ∧ T1 = T ∧ N1 = N ∧ I1 = I ∧ R1 = R ∧ nc = 0 ∧ ns = 0 ∧ sc_Vs B x L L1 ∧ sc_L A v U n (n + 1) c (fun j => L1 B (x + j)) ∧ mm = 999)
  else if pc = 77 then some (fun mm lv st T1 N1 I1 L1 R1 nc ns => ∃ (ts : List Nat) (j k : Nat) (f : Bool) (x12 x13 : Option Value), lv = sc_l9 C B b p a Q x ts.length fb (sc_r1 f k j x12 x13) ∧ st = [] ∧ T1 = T ∧ N1 = N ∧ I1 = I ∧ R1 = R ∧ nc = 0 ∧ ns = 0 ∧ sc_Vs B x L L1 ∧ ts.Pairwise (· < ·) ∧ (∀ i, i ∈ ts ↔ i < n + 1 ∧ U i ∧ sc_li A v i n) ∧ ts.length ≤ 24 ∧ j ≤ ts.length ∧ sc_w A v n ts j k f (fun j => L1 B (x + j)) ∧ mm = 2 * (100 - j))
  else if pc = 135 then some (fun mm lv st T1 N1 I1 L1 R1 nc ns => ∃ (ts : List Nat) (j k : Nat) (f : Bool) (x12 x13 : Option Value), lv = sc_l9 C B b p a Q x ts.length fb (sc_r1 f k j x12 x13) ∧ st = [] ∧ T1 = T ∧ N1 = N ∧ I1 = I ∧ R1 = R ∧ nc = 0 ∧ ns = 0 ∧ sc_Vs B x L L1 ∧ ts.Pairwise (· < ·) ∧ (∀ i, i ∈ ts ↔ i < n + 1 ∧ U i ∧ sc_li A v i n) ∧ ts.length ≤ 24 ∧ j < ts.length ∧ sc_w A v n ts (j + 1) k f (fun j => L1 B (x + j)) ∧ mm = 2 * (100 - j) - 1)
  else none
theorem sc_w_k {A : nt_A} {v : Nat → Nat} {N j k : Nat} {ts : List Nat} {f : Bool} {sl : Nat → Int64} (h : sc_w A v N ts j k f sl) : k ≤ j := by
  obtain ⟨ks, k1, k2, _⟩ := h
  exact k2
def sc_c179 : wv_c1 := fun as T N I L R q => ∃ (C : Nat) (P : pd_P) (S : rn_N) (sq : List Nat) (B b len n p a : Nat) (v : Nat → Nat) (fb : Bool), as = [.ref C, .ref B, .int (Int32.ofNat b), .int (Int32.ofNat p), .int (wb_i fb), .int (Int32.ofNat a)] ∧ sc_pre T I L R C P S sq B b len n p a v ∧ pd_k P p = 1 ∧ (fb = true ↔ sc_W L B b p n) ∧ sc_pst q T N I L R C P B b n p v
set_option maxRecDepth 100000 in
theorem wM_179 : ∃ cb ci np, pt_mt 179 = some (8, cb, 14, false, some .boolean, ci, np) := ⟨_, _, _, rfl⟩
set_option maxRecDepth 100000 in
set_option maxHeartbeats 4000000 in
theorem sc_plain {sc : pt_Sc} {d : Nat} : wv_C wm_fx sc (d + 1 + 1) 179 sc_c179 := by
  rintro as T N I L R q ⟨C, P, S, sq, B, b, len, n, p, a, v, fb, rfl, ⟨hE, hM, hn, hp, hva, ha⟩, hk, hfb, h⟩ w0 HR
  obtain ⟨cb, ci, np, hm⟩ := wM_179
  have hE0 := hE
  obtain ⟨⟨⟨d0, ⟨r0, r1, r2, r3, r4, r5, r6, r7⟩, ⟨t1, t2, t3, t4, t5, t6⟩, ⟨k7, t7⟩, ⟨k8, t8⟩, ds, dc⟩, hC⟩, ⟨h8, hm155, _, hM1⟩, ⟨hSq, hsq67⟩, ⟨hsl, h10⟩, ⟨tB, hlen, hlen2, hB40⟩, ho, hh0⟩ := hE0
  obtain ⟨g1, g2, g3, g4, g5, g6, g7, g8⟩ := hM1 p hp
  have s0 := sc_sl (k := I (C + 1)) (m := pd_m P) (i := pd_m P)

  have epn := wi_onn (n := p) (by omega)
  have e3 : Int32.ofNat b + I C 8 + Int32.ofNat p = Int32.ofNat (b + pd_m P + p) := by rw [h8, wq_ad (by omega), wq_ad (by omega)]
  have n3 := wi_onn (n := b + pd_m P + p) (by omega)
  obtain ⟨w, g, hD, hni, hl67⟩ := sc_seq hE hp (Or.inl (by omega))
  have hX := (hM.2 p hp).2.2.2 hk
  rw [if_neg (by omega)] at hX
  obtain ⟨c0, hc0, hXc, hL0⟩ := hX
  have hsp := sc_sl_1 (k := I (C + 1)) (m := pd_m P) hp (sc_kd hE p hp hk)
  have hs2 := sc_sl (k := I (C + 1)) (m := pd_m P) (i := p)
  have e6 := hsl p hp hk
  have hQB : ¬ C + 9 + pd_l P p = B := fun z => (hh0.2.2 _ hl67).1 z.symm
  have hF := hD.2.2.2.2.2.2.1
  have hn40 := hD.2.2.2.2.2.1
  have ec0 : (Int64.ofNat c0).toInt32 = Int32.ofNat c0 := sc_l2i ⟨c0, by omega⟩
  have e7 : Int32.ofNat b + Int32.ofNat (pp_sl (I (C + 1)) (pd_m P) p) = Int32.ofNat (b + pp_sl (I (C + 1)) (pd_m P) p) := wq_ad (by omega)
  have hRB : ∀ B2, R (C + 9 + pd_l P p) 0 = some B2 → ¬ B2 = B := fun B2 z e => (hh0.2.2 _ hl67).2 (by rw [z, e])
  obtain ⟨x, hx0⟩ : ∃ x, x = b + pp_sl (I (C + 1)) (pd_m P) p := ⟨_, rfl⟩
  rw [← hx0] at hL0 e7
  have hx1 : x + 24 ≤ len := by omega
  have sqL : ∀ L1, sc_Vs B x L L1 → sq_D T I L1 R (C + 9 + pd_l P p) (pd_a P p) w g := fun L1 hV => by
    obtain ⟨a1, a2, a3, a4, a5, a6, a7, a8, B2, len2, b1, b2, b3, b4⟩ := hD
    refine ⟨a1, a2, a3, a4, a5, a6, fun t ht => ?_, fun t ht => ?_, B2, len2, b1, b2, b3, fun s v t hs hv hg ht => ?_⟩
    · rw [hV _ _ (fun z => hQB z.1)]
      exact a7 t ht
    · rw [hV _ _ (fun z => hQB z.1)]
      exact a8 t ht
    · rw [hV _ _ (fun z => hRB B2 b1 z.1)]
      exact b4 s v t hs hv hg ht
  have hc180 : wv_C wm_fx sc (d + 1) 180 sq_c180 := wv_C_deep (by omega) (sq_accepts (d := d))
  have hc181 : wv_C wm_fx sc (d + 1) 181 sq_c181 := wv_C_deep (by omega) (sq_next (d := d))
  refine wv_meth (hh := none) rfl (sp := wv_sp [(180, sq_c180), (181, sq_c181)]) (hd := sc_h179 C B b p n a x (C + 9 + pd_l P p) fb c0 (pd_a P p) v (sc_W L B b p) T N I L R) (n := 300) (n1 := 300) hm zc_179 rfl (wv_sp_ok (fun q hq => by
    rcases List.mem_cons.mp hq with h | h
    · rw [h]; exact hc180
    rw [List.mem_singleton.mp h]; exact hc181)) ?_ ?_ HR
  · refine ⟨d0, _, r6, d0, _, r4, _, t5, pp_b (c := 155) (by omega) (by omega), ?_⟩
    rw [epn, g5]
    refine ⟨_, _, _, t7, pp_b (c := 67) hl67 (by omega), by rw [wi_onn (by omega)]; exact (ds _ hl67).1, ?_⟩
    refine ⟨d0, _, r5, _, t6, pp_b (c := 155) (by omega) (by omega), ?_⟩
    rw [epn, e6]
    refine ⟨d0, _, tB, by rw [e3]; exact pp_b (c := len) (by omega) (by omega), ?_⟩
    rw [e3, n3, hXc]
    exact ⟨_, by unfold sc_l9; rw [← ec0, ← e7]; rfl, rfl, rfl, rfl, rfl, rfl, rfl, rfl, rfl, rfl⟩
  · intro pc P hP m lv st T1 N1 I1 L1 R1 nc ns hh
    unfold sc_h179 at hP
    by_cases p36 : pc = 36
    · rw [if_pos p36] at hP
      cases hP
      subst p36
      obtain ⟨rfl, rfl, rfl, rfl, rfl, rfl, rfl, rfl, rfl, rfl⟩ := hh
      have ec := wi_on (n := c0) (by omega)
      have acc : (∃ t, t < 64 ∧ nb (Int64.ofNat 1) t = true ∧ nb (L1 (C + 9 + pd_l P p) 4) t = true) ↔ nt_a (pd_a P p) (pd_w v) n n := by
        rw [sc_a0, ← hF 0 (by omega)]
        constructor
        · rintro ⟨t, h1, h2, h3⟩
          rw [nb_1, decide_eq_true_iff] at h2
          subst h2
          exact h3
        · exact fun z => ⟨0, by omega, by rw [nb_1]; rfl, z⟩
      have same : ¬ (sc_W L1 B b p n ∧ ¬ nt_a (pd_a P p) (pd_w v) n n) → sc_L (pd_a P p) v (sc_W L1 B b p) n (n + 1) c0 (fun j => L1 B (x + j)) := fun z => sc_L_n hL0 z
      refine ⟨fun w2 => ?_, fun w2 => ?_⟩
      · have w2 := wb_i_2.mp (fun z => z w2)
        exact ⟨999, by omega, c0, rfl, rfl, rfl, rfl, rfl, rfl, rfl, rfl, fun _ _ _ => rfl, same (fun z => by rw [hfb.mpr z.1] at w2; cases w2), rfl⟩
      have w2 := hfb.mp (wb_i_1.mp w2)
      refine ⟨fun w3 => ?_, fun w3 => ?_⟩
      · have w3 : 24 ≤ (Int32.ofNat c0).toInt := wi_le.mp w3
        rw [ec] at w3
        omega
      refine ⟨hD.1, C + 9 + pd_l P p, _, rfl, hD.1, fun z => ?_, fun z => ?_⟩
      · have z := acc.mp z
        refine ⟨fun _ => ?_, fun y => absurd (fun e => by cases e) y⟩
        exact ⟨999, by omega, c0, rfl, rfl, rfl, rfl, rfl, rfl, rfl, rfl, fun _ _ _ => rfl, same (fun y => y.2 z), rfl⟩
      · have z : ¬ nt_a (pd_a P p) (pd_w v) n n := fun y => z (acc.mpr y)
        refine ⟨fun y => absurd rfl y, fun _ => ?_⟩
        have e5 : Int32.ofNat x + Int32.ofNat c0 = Int32.ofNat (x + c0) := wq_ad (by omega)
        have n5 := wi_onn (n := x + c0) (by omega)
        refine ⟨_, tB, by rw [e5]; exact pp_b (c := len) (by omega) (by omega), hB40, ?_⟩
        rw [e5, n5]
        refine ⟨999, by omega, c0 + 1, by unfold sc_l9; rw [← wq_4s c0]; rfl, rfl, rfl, rfl, rfl, rfl, rfl, rfl, fun c k hck => wv_u_no _ _ (by omega), sc_L_b hL0 w2 z (fun j hj => wv_u_no _ _ (by omega)) (fun t ht => ?_), rfl⟩
        show nb (wv_u L1 B (x + c0) (Int64.ofNat 1) B (x + c0)) t = true ↔ t = 0
        rw [wv_u_at, nb_1, decide_eq_true_iff]
    rw [if_neg p36] at hP
    by_cases p68 : pc = 68
    · rw [if_pos p68] at hP
      cases hP
      subst p68
      obtain ⟨c, rfl, rfl, rfl, rfl, rfl, rfl, rfl, rfl, hV, ⟨ts, q1, q2, q3, q4⟩, rfl⟩ := hh
      subst q1
      have hle := sc_L_le ⟨ts, rfl, q2, q3, q4⟩
      exact ⟨2 * (100 - 0), by omega, ts, 0, 0, false, none, none, rfl, rfl, rfl, rfl, rfl, rfl, rfl, rfl, hV, q2, q3, by omega, Nat.zero_le _, sc_w_0 q4, rfl⟩
    rw [if_neg p68] at hP
    by_cases p77 : pc = 77
    · rw [if_pos p77] at hP
      cases hP
      subst p77
      obtain ⟨ts, j, k, f, x12, x13, rfl, rfl, rfl, rfl, rfl, rfl, rfl, rfl, hV, q2, q3, hlt, hj, hw, rfl⟩ := hh
      have hkj := sc_w_k hw
      have ej := wi_on (n := j) (by omega)
      have el := wi_on (n := ts.length) (by omega)
      refine ⟨fun w2 => ?_, fun w2 => ?_⟩
      · rw [wi_le, el, ej] at w2
        have e : j = ts.length := by omega
        subst e
        obtain ⟨r1, r2⟩ := sc_w_e q3 hw
        have hkn := sc_L_le r1
        refine ⟨d0, _, tB, by rw [e3]; exact pp_b (c := len) (by omega) (by omega), hB40, ?_⟩
        have eki : (Int32.ofNat k).toInt64 = Int64.ofNat k := sc_i2l ⟨k, by omega⟩
        rw [e3, n3, eki]
        have hq := h (wv_u L1 B (b + pd_m P + p) (Int64.ofNat k)) f (sc_fin0 ho hn hp (sc_kd hE) hM (by omega) (fun i i1 i2 => ?_) ⟨fun z => by omega, fun z => by omega, fun z => by omega, fun _ => ⟨k, hkn, wv_u_at _ _ _ _, ?_⟩⟩) (r2.trans ?_) ?_
        · cases f with
          | true => exact ⟨⟨rfl, rfl⟩, hq⟩
          | false => exact ⟨⟨rfl, rfl⟩, hq⟩
        · rw [wv_u_no _ _ (by omega)]
          exact hV _ _ (fun z => i2 ⟨hk, by omega, by omega⟩)
        · refine sc_L_c r1 (fun _ _ => Iff.rfl) (fun i hi => ?_)
          rw [← hx0]
          exact wv_u_no _ _ (by omega)
        · constructor
          · rintro ⟨i, i1, i2, i3, i4⟩
            exact Or.inr (Or.inl ⟨hk, i, i1, i2, i3.1, i3.2, i4⟩)
          · rintro (z | ⟨_, i, i1, i2, i3, i4, i5⟩ | z | z)
            · omega
            · exact ⟨i, i1, i2, ⟨i3, i4⟩, i5⟩
            · omega
            · omega
        · intro c i z
          rw [wv_u_no _ _ (by omega)]
          exact hV c i (by omega)
      rw [wi_le, el, ej] at w2
      have hj2 : j < ts.length := by omega
      obtain ⟨i, hi⟩ : ∃ i, ts[j]? = some i := ⟨ts[j], List.getElem?_eq_getElem hj2⟩
      have e5 : Int32.ofNat x + Int32.ofNat j = Int32.ofNat (x + j) := wq_ad (by omega)
      have n5 := wi_onn (n := x + j) (by omega)
      refine ⟨_, tB, by rw [e5]; exact pp_b (c := len) (by omega) (by omega), ?_⟩
      rw [e5, n5]
      refine ⟨hD.1, C + 9 + pd_l P p, w, g, a, pd_a P p, _, rfl, sqL L1 hV, ha, fun y hy => ?_⟩
      have him : i < n + 1 := ((q3 i).mp (List.mem_of_getElem? hi)).1
      have hy2 : ∀ t, t < 64 → (nb y t = true ↔ nz_s (pd_a P p) (pd_w v) i (n + 1 - i) t) := fun t ht => by
        obtain ⟨ks, k1, k2, k3, k4, k5, k6, k7⟩ := hw
        rw [hy t ht, show n + 1 - i = (n - i) + 1 by omega, nz_s_1, show i + (n - i) = n by omega]
        have ev : pd_w v n = some a := by
          unfold pd_w
          rw [hva]
        rw [ev]
        constructor
        · rintro ⟨s, s1, s2, s3, s4⟩
          exact ⟨s, (k6 j i (Nat.le_refl _) hi s (by omega)).mp s2, (sc_ni hni).mp s3, s4⟩
        · rintro ⟨s, s2, s3, s4⟩
          have hb := (nz_D_b s3).1
          exact ⟨s, hb, (k6 j i (Nat.le_refl _) hi s (by omega)).mpr s2, (sc_ni hni).mpr s3, s4⟩
      have st := fun (f2 : Bool) (sl2 : Nat → Int64) => sc_w_s (f2 := f2) (sl2 := sl2) q2 (fun i hi => ⟨((q3 i).mp hi).1, ((q3 i).mp hi).2.2⟩) hw hi hy2 hn40
      refine ⟨fun w3 => ?_, fun w3 => ?_⟩
      · have w3 : ¬ y = Int64.ofNat 0 := fun z => w3 (lg_cmp_0.mpr z)
        have acc : (∃ t, t < 64 ∧ nb y t = true ∧ nb (L1 (C + 9 + pd_l P p) 4) t = true) ↔ nt_a (pd_a P p) (pd_w v) i (n + 1) := by
          rw [hV _ _ (fun z => hQB z.1)]
          have h2 := nz_s_a (A := pd_a P p) (w := pd_w v) (i := i) (n := n + 1 - i)
          rw [show i + (n + 1 - i) = n + 1 by omega] at h2
          rw [h2]
          constructor
          · rintro ⟨t, z1, z2, z3⟩
            exact ⟨t, (hy2 t z1).mp z2, (hF t z1).mp z3⟩
          · rintro ⟨t, z1, z2⟩
            have ht : t < nt_n (pd_a P p) + 1 := by
              rcases z2 with ⟨z, _⟩ | ⟨x, z, z2⟩
              · omega
              · have := z2.1
                omega
            exact ⟨t, by omega, (hy2 t (by omega)).mpr z1, (hF t (by omega)).mpr z2⟩
        refine ⟨hD.1, C + 9 + pd_l P p, y, rfl, hD.1, fun z => ?_, fun z => ?_⟩
        · have z := acc.mp z
          refine ⟨fun _ => ?_, fun y => absurd (fun e => by cases e) y⟩
          exact ⟨2 * (100 - j) - 1, by omega, ts, j, k, f, _, _, rfl, rfl, rfl, rfl, rfl, rfl, rfl, rfl, hV, q2, q3, hlt, hj2, (st f _).2.1 w3 z rfl rfl, rfl⟩
        · have z : ¬ nt_a (pd_a P p) (pd_w v) i (n + 1) := fun y => z (acc.mpr y)
          refine ⟨fun y => absurd rfl y, fun _ => ?_⟩
          have e6b : Int32.ofNat x + Int32.ofNat k = Int32.ofNat (x + k) := wq_ad (by omega)
          have n6 := wi_onn (n := x + k) (by omega)
          refine ⟨_, tB, by rw [e6b]; exact pp_b (c := len) (by omega) (by omega), hB40, ?_⟩
          rw [e6b, n6]
          exact ⟨2 * (100 - j) - 1, by omega, ts, j, k + 1, f, _, _, by unfold sc_l9 sc_r1; rw [← wq_4s k]; rfl, rfl, rfl, rfl, rfl, rfl, rfl, rfl, fun c i z => by rw [wv_u_no _ _ (by omega)]; exact hV c i z, q2, q3, hlt, hj2, (st f _).2.2 w3 z (wv_u_at _ _ _ _) (fun a ha => wv_u_no _ _ (by omega)) rfl, rfl⟩
      · have w3 : y = Int64.ofNat 0 := lg_cmp_0.mp (Decidable.not_not.mp w3)
        exact ⟨2 * (100 - j) - 1, by omega, ts, j, k, true, _, _, rfl, rfl, rfl, rfl, rfl, rfl, rfl, rfl, hV, q2, q3, hlt, hj2, (st true _).1 w3 rfl rfl, rfl⟩
    rw [if_neg p77] at hP
    by_cases p135 : pc = 135
    · rw [if_pos p135] at hP
      cases hP
      subst p135
      obtain ⟨ts, j, k, f, x12, x13, rfl, rfl, rfl, rfl, rfl, rfl, rfl, rfl, hV, q2, q3, hlt, hj, hw, rfl⟩ := hh
      exact ⟨2 * (100 - (j + 1)), by omega, ts, j + 1, k, f, x12, x13, by unfold sc_l9 sc_r1; rw [← wq_4s j]; rfl, rfl, rfl, rfl, rfl, rfl, rfl, rfl, hV, q2, q3, hlt, hj, hw, rfl⟩
    rw [if_neg p135] at hP
    cases hP
