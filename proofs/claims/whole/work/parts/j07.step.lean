/-! ===== the class: a part takes a letter ===== -/
def sc_l7 (C B b p n a : Nat) (x6 x7 : Option Value) : List (Option Value) := [some (.ref C), some (.ref B), some (.int (Int32.ofNat b)), some (.int (Int32.ofNat p)), some (.int (Int32.ofNat n)), some (.int (Int32.ofNat a)), x6, x7, none, none, none, none, none, none]
def sc_h177 (C B b p n a : Nat) (f : Bool) (T : wv_T) (N : Nat) (I : Nat → Nat → Int32) (L : Nat → Nat → Int64) (R : Nat → Nat → Option Nat) : Nat → Option (Nat → wv_P) := fun pc =>
  if pc = 20 then some (fun mm lv st T1 N1 I1 L1 R1 nc ns => lv = sc_l7 C B b p n a none none ∧ st = [.int (wb_i f)] ∧ T1 = T ∧ N1 = N ∧ I1 = I ∧ R1 = R ∧ nc = 0 ∧ ns = 0 ∧ L1 = L ∧ mm = 2)
  else if pc = 29 then some (fun mm lv st T1 N1 I1 L1 R1 nc ns => lv = sc_l7 C B b p n a (some (.int (wb_i f))) (some (.int (Int32.ofNat (b + p + 1)))) ∧ st = [] ∧ T1 = T ∧ N1 = N ∧ I1 = I ∧ R1 = R ∧ nc = 0 ∧ ns = 0 ∧ L1 = L ∧ mm = 1)
  else none
theorem sc_zero {x : Int64} {u : Nat} : nb (x ||| Int64.ofNat 0) u = true ↔ nb x u = true ∨ False := by
  have e : nb (Int64.ofNat 0) u = false := nb_0 _
  rw [nb_or, e, Bool.or_false]
  exact ⟨Or.inl, fun z => z.elim id False.elim⟩
def sc_c177 : wv_c1 := fun as T N I L R q => ∃ (C : Nat) (P : pd_P) (S : rn_N) (sq : List Nat) (B b len n p a : Nat) (v : Nat → Nat), as = [.ref C, .ref B, .int (Int32.ofNat b), .int (Int32.ofNat p), .int (Int32.ofNat n), .int (Int32.ofNat a)] ∧ sc_pre T I L R C P S sq B b len n p a v ∧ sc_pst q T N I L R C P B b n p v
set_option maxRecDepth 100000 in
theorem wM_177 : ∃ cb ci np, pt_mt 177 = some (8, cb, 8, false, some .boolean, ci, np) := ⟨_, _, _, rfl⟩
set_option maxRecDepth 100000 in
set_option maxHeartbeats 4000000 in
theorem sc_stepPart {sc : pt_Sc} {d : Nat} : wv_C wm_fx sc (d + 1 + 1 + 1) 177 sc_c177 := by
  rintro as T N I L R q ⟨C, P, S, sq, B, b, len, n, p, a, v, rfl, ⟨hE, hM, hn, hp, hva, ha⟩, h⟩ w0 HR
  obtain ⟨cb, ci, np, hm⟩ := wM_177
  have hE0 := hE
  obtain ⟨⟨⟨d0, ⟨r0, r1, r2, r3, r4, r5, r6, r7⟩, ⟨t1, t2, t3, t4, t5, t6⟩, ⟨k7, t7⟩, ⟨k8, t8⟩, ds, dc⟩, hC⟩, ⟨h8, hm155, _, hM1⟩, ⟨hSq, hsq67⟩, ⟨hsl, h10⟩, ⟨tB, hlen, hlen2, hB40⟩, ho, hh0⟩ := hE0
  obtain ⟨g1, g2, g3, g4, g5, g6, g7, g8⟩ := hM1 p hp
  have s0 := sc_sl (k := I (C + 1)) (m := pd_m P) (i := pd_m P)

  have epn := wi_onn (n := p) (by omega)
  have e1 : Int32.ofNat b + Int32.ofNat p = Int32.ofNat (b + p) := wq_ad (by omega)
  have n1 := wi_onn (n := b + p) (by omega)
  have e3 : Int32.ofNat b + I C 8 + Int32.ofNat p = Int32.ofNat (b + pd_m P + p) := by rw [h8, wq_ad (by omega), wq_ad (by omega)]
  have n3 := wi_onn (n := b + pd_m P + p) (by omega)

  have e5 : Int32.ofNat (b + p) + Int32.ofInt 1 = Int32.ofNat (b + p + 1) := wq_4s _
  have n5 := wi_onn (n := b + p + 1) (by omega)
  have hc178 : wv_C wm_fx sc (d + 1 + 1) 178 sc_c178 := wv_C_deep (by omega) (sc_isIn (d := d))
  have hc179 : wv_C wm_fx sc (d + 1 + 1) 179 sc_c179 := wv_C_deep (by omega) (sc_plain (d := d))
  have hc182 : wv_C wm_fx sc (d + 1 + 1) 182 sc_c182 := wv_C_deep (by omega) (sc_rows (d := d))
  have hc183 : wv_C wm_fx sc (d + 1 + 1) 183 sc_c183 := wv_C_deep (by omega) (sc_never (d := d))
  have hc184 : wv_C wm_fx sc (d + 1 + 1) 184 sc_c184 := wv_C_deep (by omega) (sc_hasBegun (d := d))
  have hc185 : wv_C wm_fx sc (d + 1 + 1) 185 sc_c185 := wv_C_deep (by omega) (sc_open (d := d))
  refine wv_meth (hh := none) rfl (sp := wv_sp [(178, sc_c178), (179, sc_c179), (182, sc_c182), (183, sc_c183), (184, sc_c184), (185, sc_c185)]) (hd := sc_h177 C B b p n a (nb (L B (b + p)) n) T N I L R) (n := 300) (n1 := 300) hm zc_177 rfl (wv_sp_ok (fun q hq => by
    rcases List.mem_cons.mp hq with h | h
    · rw [h]; exact hc178
    rcases List.mem_cons.mp h with h | h
    · rw [h]; exact hc179
    rcases List.mem_cons.mp h with h | h
    · rw [h]; exact hc182
    rcases List.mem_cons.mp h with h | h
    · rw [h]; exact hc183
    rcases List.mem_cons.mp h with h | h
    · rw [h]; exact hc184
    rw [List.mem_singleton.mp h]; exact hc185)) ?_ ?_ HR
  · refine ⟨_, tB, by rw [e1]; exact pp_b (c := len) (by omega) (by omega), ?_⟩
    rw [e1, n1]
    refine ⟨fun w => ?_, fun w => ?_⟩
    · have w := (nb_c0 (show n < 64 by omega)).mp w
      exact ⟨_, rfl, by rw [w]; rfl, rfl, rfl, rfl, rfl, rfl, rfl, rfl, rfl⟩
    · have w := (nb_c1 (show n < 64 by omega)).mp w
      exact ⟨_, rfl, by rw [w]; rfl, rfl, rfl, rfl, rfl, rfl, rfl, rfl, rfl⟩
  · intro pc P hP m lv st T1 N1 I1 L1 R1 nc ns hh
    unfold sc_h177 at hP
    by_cases p20 : pc = 20
    · rw [if_pos p20] at hP
      cases hP
      subst p20
      obtain ⟨rfl, rfl, rfl, rfl, rfl, rfl, rfl, rfl, rfl, rfl⟩ := hh
      exact ⟨1, by omega, by unfold sc_l7; rw [← e5, ← e1]; rfl, rfl, rfl, rfl, rfl, rfl, rfl, rfl, rfl, rfl⟩
    rw [if_neg p20] at hP
    by_cases p29 : pc = 29
    · rw [if_pos p29] at hP
      cases hP
      subst p29
      obtain ⟨rfl, rfl, rfl, rfl, rfl, rfl, rfl, rfl, rfl, rfl⟩ := hh
      have same : (pd_k P p = 0 ∨ pd_k P p = 1 ∨ pd_k P p = 6 ∨ pd_k P p = 9) → pd_k P p = 0 → sc_M P v (I1 (C + 1)) B b n (p + 1) L1 := fun _ k0 => sc_fin0 ho hn hp (sc_kd hE) hM (Or.inl k0) (fun _ _ _ => rfl) ⟨fun z => by omega, fun z => by omega, fun z => by omega, fun z => by omega⟩
      have finv : (4 ≤ pd_k P p ∧ pd_k P p ≤ 5) ∨ pd_k P p = 7 → ∀ (L3 : Nat → Nat → Int64) (z : Int64) (add : Nat → Prop), (∀ u, u < 64 → (nb (L1 B (b + p + 1) ||| z) u = true ↔ nb (L1 B (b + p + 1)) u = true ∨ add u)) → L3 = wv_u L1 B (b + p + 1) (L1 B (b + p + 1) ||| z) → (∀ u, u < 64 → (add u ↔ sc_add P v (sc_W L1 B b) p n u)) → q (.inl (some (.int 0))) T1 N1 I1 L3 R1 0 0 := fun k4 L3 z add hz hL3 hadd => by
        have hT : ∀ q, sc_T P p q ↔ q = p + 1 := fun q => ⟨fun z => by
          rcases z with ⟨z, _⟩ | ⟨z, _⟩
          · exact z
          · omega, fun z => Or.inl ⟨z, by omega⟩⟩
        have hp1 : p + 1 < pd_m P := (ho.1 p (p + 1) hp ((hT _).mpr rfl)).2
        subst hL3
        refine h _ false (sc_fin ho hn hp hM (fun q u hq hu => ?_) (fun s hs hsp => wv_u_no _ _ (by omega)) (fun s j hs hsp hks hj => ?_) ⟨fun z => by omega, fun z => by omega, fun z => by omega, fun z => by omega⟩) ⟨fun z => (by cases z), fun z => ?_⟩ (sc_FB_u sc_FB_r (by omega) (by omega))
        · rw [hT]
          by_cases e : q = p + 1
          · subst e
            show nb (wv_u L1 B (b + p + 1) _ B (b + p + 1)) u = true ↔ nb (L1 B (b + p + 1)) u = true ∨ (p + 1 = p + 1 ∧ _)
            rw [wv_u_at, hz u hu, hadd u hu]
            exact ⟨fun y => y.elim Or.inl (fun y2 => Or.inr ⟨rfl, y2⟩), fun y => y.elim Or.inl (fun y2 => Or.inr y2.2)⟩
          · show nb (wv_u L1 B (b + p + 1) _ B (b + q)) u = true ↔ nb (L1 B (b + q)) u = true ∨ _
            rw [wv_u_no _ _ (by omega)]
            exact ⟨Or.inl, fun z => z.elim id (fun y => (e y.1).elim)⟩
        · have s1 := sc_sl (k := I1 (C + 1)) (m := pd_m P) (i := s)
          exact wv_u_no _ _ (by omega)
        · rcases z with z | z | z | z <;> omega
      refine ⟨d0, _, r0, _, t1, pp_b (c := 155) (by omega) (by omega), ?_⟩
      rw [epn, g1]
      have ek := wi_on (n := pd_k P p) (by omega)
      refine ⟨fun w => ?_, fun nk0 => ⟨fun w => ?_, fun nk1 => ⟨fun w => ?_, fun nk2 => ⟨fun w => ?_, fun nk3 => ⟨fun w => ?_, fun nk4 => ⟨fun w => ?_, fun nk5 => ⟨fun w => ?_, fun nk6 => ⟨fun w => ?_, fun nk7 => ⟨fun w => ?_, fun nk8 => ⟨fun w => ?_, fun nk9 => ?_⟩⟩⟩⟩⟩⟩⟩⟩⟩⟩
      · have w : pd_k P p = 0 := by rw [ek] at w; omega
        have fin : ∀ f2 : Bool, (f2 = true ↔ sc_W L1 B b p n ∧ pd_c P p a = false) → q (.inl (some (.int (wb_i f2)))) T1 N1 I1 L1 R1 0 0 := fun f2 hf2 => h L1 f2 (same (Or.inl w) w) (hf2.trans ⟨fun z => Or.inl ⟨w, z.1, by rw [hva]; exact z.2⟩, fun z => by
          rcases z with ⟨_, z1, z2⟩ | z | z | z
          · rw [hva] at z2
            exact ⟨z1, z2⟩
          · omega
          · omega
          · omega⟩) sc_FB_r
        refine ⟨fun w2 => ?_, fun w2 => ?_⟩
        · have w2 := wb_i_2.mp (fun z => z w2)
          exact ⟨⟨rfl, rfl⟩, fin false ⟨fun z => (by cases z), fun z => by have z1 : nb (L1 B (b + p)) n = true := z.1; rw [w2] at z1; cases z1⟩⟩
        have w2 := wb_i_1.mp w2
        refine ⟨d0, _, r1, _, t2, pp_b (c := 155) (by omega) (by omega), ?_⟩
        rw [epn]
        refine ⟨_, a, rfl, ha, ?_⟩
        rw [g7 a ha]
        refine ⟨fun w3 => ?_, fun w3 => ?_⟩
        · have w3 := wb_i_1.mp w3
          exact ⟨⟨rfl, rfl⟩, fin false ⟨fun z => (by cases z), fun z => by rw [w3] at z; cases z.2⟩⟩
        · have w3 := wb_i_2.mp w3
          exact ⟨⟨rfl, rfl⟩, fin true ⟨fun _ => ⟨w2, w3⟩, fun _ => rfl⟩⟩
      · have w : pd_k P p = 1 := by rw [ek] at w; omega
        refine ⟨d0, C, P, S, sq, B, b, len, n, p, a, v, nb (L1 B (b + p)) n, rfl, ⟨hE, hM, hn, hp, hva, ha⟩, w, Iff.rfl, fun L3 f3 m1 m2 m3 => ?_⟩
        have hq := h L3 f3 m1 m2 m3
        cases f3 with
        | true => exact ⟨⟨rfl, rfl⟩, hq⟩
        | false => exact ⟨⟨rfl, rfl⟩, hq⟩
      · have w : pd_k P p = 2 := by rw [ek] at w; omega
        refine ⟨d0, C, P, S, sq, B, b, len, n, p, a, v, rfl, ⟨hE, hM, hn, hp, hva, ha⟩, by omega, fun L3 m1 m3 => ?_⟩
        exact ⟨⟨rfl, rfl⟩, h L3 false m1 ⟨fun z => (by cases z), fun z => by rcases z with ⟨z, _⟩ | ⟨z, _⟩ | ⟨z, _⟩ | ⟨z, _⟩ <;> omega⟩ m3⟩
      · have w : pd_k P p = 3 := by rw [ek] at w; omega
        refine ⟨d0, C, P, S, sq, B, b, len, n, p, a, v, rfl, ⟨hE, hM, hn, hp, hva, ha⟩, by omega, fun L3 m1 m3 => ?_⟩
        exact ⟨⟨rfl, rfl⟩, h L3 false m1 ⟨fun z => (by cases z), fun z => by rcases z with ⟨z, _⟩ | ⟨z, _⟩ | ⟨z, _⟩ | ⟨z, _⟩ <;> omega⟩ m3⟩
      · have w : pd_k P p = 4 := by rw [ek] at w; omega
        have hp1 : p + 1 < pd_m P := (ho.1 p (p + 1) hp (Or.inl ⟨rfl, by omega⟩)).2
        refine ⟨_, tB, pp_b (c := len) (by omega) (by omega), ?_⟩
        rw [n5]
        refine ⟨fun w2 => ?_, fun w2 => ?_⟩
        · have w2 := wb_i_2.mp (fun z => z w2)
          refine ⟨_, tB, pp_b (c := len) (by omega) (by omega), hB40, ⟨rfl, rfl⟩, ?_⟩
          rw [n5]
          refine finv (by omega) _ _ (fun _ => False) (fun u hu => sc_zero) rfl (fun u hu => ⟨fun z => ?_, fun z => ?_⟩)
          · exact z.elim
          · rcases z with ⟨y0, _⟩ | ⟨y0, _⟩ | ⟨_, y1, y2, y3⟩ | ⟨y0, _⟩ | ⟨y0, _⟩ | ⟨y0, _⟩ | ⟨y0, _⟩
            · omega
            · omega
            · have y2 : nb (L1 B (b + p)) n = true := y2
              rw [w2] at y2
              cases y2
            · omega
            · omega
            · omega
            · omega
        have w2 := wb_i_1.mp w2
        refine ⟨d0, _, r1, _, t2, pp_b (c := 155) (by omega) (by omega), ?_⟩
        rw [epn]
        refine ⟨_, a, rfl, ha, ?_⟩
        rw [g7 a ha]
        refine ⟨fun w3 => ?_, fun w3 => ?_⟩
        · have w3 := wb_i_2.mp (fun z => z w3)
          refine ⟨_, tB, pp_b (c := len) (by omega) (by omega), hB40, ⟨rfl, rfl⟩, ?_⟩
          rw [n5]
          refine finv (by omega) _ _ (fun _ => False) (fun u hu => sc_zero) rfl (fun u hu => ⟨fun z => ?_, fun z => ?_⟩)
          · exact z.elim
          · rcases z with ⟨y0, _⟩ | ⟨y0, _⟩ | ⟨_, y1, y2, y3⟩ | ⟨y0, _⟩ | ⟨y0, _⟩ | ⟨y0, _⟩ | ⟨y0, _⟩
            · omega
            · omega
            · rw [hva, w3] at y3
              cases y3
            · omega
            · omega
            · omega
            · omega
        · have w3 := wb_i_1.mp w3
          refine ⟨_, tB, pp_b (c := len) (by omega) (by omega), hB40, ⟨rfl, rfl⟩, ?_⟩
          rw [n5]
          refine finv (by omega) _ _ (fun u => u = n) (fun u hu => sc_bit (by omega)) rfl (fun u hu => ⟨fun z => ?_, fun z => ?_⟩)
          · exact Or.inr (Or.inr (Or.inl ⟨w, z, w2, by rw [hva]; exact w3⟩))
          · rcases z with ⟨y0, _⟩ | ⟨y0, _⟩ | ⟨_, y1, y2, y3⟩ | ⟨y0, _⟩ | ⟨y0, _⟩ | ⟨y0, _⟩ | ⟨y0, _⟩
            · omega
            · omega
            · exact y1
            · omega
            · omega
            · omega
            · omega
      · have w : pd_k P p = 5 := by rw [ek] at w; omega
        have hp1 : p + 1 < pd_m P := (ho.1 p (p + 1) hp (Or.inl ⟨rfl, by omega⟩)).2
        refine ⟨_, tB, pp_b (c := len) (by omega) (by omega), ?_⟩
        rw [n5]
        refine ⟨_, tB, by rw [e1]; exact pp_b (c := len) (by omega) (by omega), ?_⟩
        rw [e1, n1]
        refine ⟨_, n, rfl, by omega, ?_⟩
        refine ⟨fun w2 => ?_, fun w2 => ?_⟩
        · have w2 := wb_i_2.mp (fun z => z w2)
          refine ⟨_, tB, pp_b (c := len) (by omega) (by omega), hB40, ⟨rfl, rfl⟩, ?_⟩
          rw [n5]
          refine finv (by omega) _ _ (fun _ => False) (fun u hu => sc_zero) rfl (fun u hu => ⟨fun z => ?_, fun z => ?_⟩)
          · exact z.elim
          · rcases z with ⟨y0, _⟩ | ⟨y0, _⟩ | ⟨y0, _⟩ | ⟨_, y1, y2⟩ | ⟨y0, _⟩ | ⟨y0, _⟩ | ⟨y0, _⟩
            · omega
            · omega
            · omega
            · rw [sc_any_i.mpr y2] at w2
              cases w2
            · omega
            · omega
            · omega
        · have w2 := sc_any_i.mp (wb_i_1.mp w2)
          refine ⟨_, tB, pp_b (c := len) (by omega) (by omega), hB40, ⟨rfl, rfl⟩, ?_⟩
          rw [n5]
          refine finv (by omega) _ _ (fun u => u = n) (fun u hu => sc_bit (by omega)) rfl (fun u hu => ⟨fun z => ?_, fun z => ?_⟩)
          · exact Or.inr (Or.inr (Or.inr (Or.inl ⟨w, z, w2⟩)))
          · rcases z with ⟨y0, _⟩ | ⟨y0, _⟩ | ⟨y0, _⟩ | ⟨_, y1, y2⟩ | ⟨y0, _⟩ | ⟨y0, _⟩ | ⟨y0, _⟩
            · omega
            · omega
            · omega
            · exact y1
            · omega
            · omega
            · omega
      · have w : pd_k P p = 6 := by rw [ek] at w; omega
        refine ⟨d0, C, P, S, sq, B, b, len, n, p, a, v, rfl, ⟨hE, hM, hn, hp, hva, ha⟩, w, fun L3 f3 m1 m2 m3 => ?_⟩
        have hq := h L3 f3 m1 m2 m3
        cases f3 with
        | true => exact ⟨⟨rfl, rfl⟩, hq⟩
        | false => exact ⟨⟨rfl, rfl⟩, hq⟩
      · have w : pd_k P p = 7 := by rw [ek] at w; omega
        have hp1 : p + 1 < pd_m P := (ho.1 p (p + 1) hp (Or.inl ⟨rfl, by omega⟩)).2
        refine ⟨_, tB, pp_b (c := len) (by omega) (by omega), ?_⟩
        rw [n5]
        refine ⟨fun w2 => ?_, fun w2 => ?_⟩
        · have w2 := wb_i_2.mp (fun z => z w2)
          refine ⟨_, tB, pp_b (c := len) (by omega) (by omega), hB40, ⟨rfl, rfl⟩, ?_⟩
          rw [n5]
          refine finv (by omega) _ _ (fun _ => False) (fun u hu => sc_zero) rfl (fun u hu => ⟨fun z => ?_, fun z => ?_⟩)
          · exact z.elim
          · rcases z with ⟨y0, _⟩ | ⟨y0, _⟩ | ⟨y0, _⟩ | ⟨y0, _⟩ | ⟨_, y1, y2⟩ | ⟨y0, _⟩ | ⟨y0, _⟩
            · omega
            · omega
            · omega
            · omega
            · have y2 : nb (L1 B (b + p)) n = true := y2
              rw [w2] at y2
              cases y2
            · omega
            · omega
        · have w2 := wb_i_1.mp w2
          refine ⟨d0, _, r3, _, t4, pp_b (c := 155) (by omega) (by omega), ?_⟩
          rw [epn, g3]
          have en5 : Int32.ofNat n + Int32.ofNat (pd_t P p) = Int32.ofNat (n + pd_t P p) := wq_ad (by omega)
          refine ⟨_, tB, pp_b (c := len) (by omega) (by omega), hB40, ⟨rfl, rfl⟩, ?_⟩
          rw [n5, en5]
          refine finv (by omega) _ _ (fun u => u = n + pd_t P p) (fun u hu => sc_bit (by omega)) rfl (fun u hu => ⟨fun z => ?_, fun z => ?_⟩)
          · exact Or.inr (Or.inr (Or.inr (Or.inr (Or.inl ⟨w, z, w2⟩))))
          · rcases z with ⟨y0, _⟩ | ⟨y0, _⟩ | ⟨y0, _⟩ | ⟨y0, _⟩ | ⟨_, y1, y2⟩ | ⟨y0, _⟩ | ⟨y0, _⟩
            · omega
            · omega
            · omega
            · omega
            · exact y1
            · omega
            · omega
      · have w : pd_k P p = 8 := by rw [ek] at w; omega
        refine ⟨d0, C, P, S, sq, B, b, len, n, p, a, v, rfl, ⟨hE, hM, hn, hp, hva, ha⟩, Or.inl w, fun L3 f3 m1 m2 m3 => ?_⟩
        have hq := h L3 f3 m1 m2 m3
        cases f3 with
        | true => exact ⟨⟨rfl, rfl⟩, hq⟩
        | false => exact ⟨⟨rfl, rfl⟩, hq⟩
      · have w : pd_k P p = 9 := by rw [ek] at w; omega
        refine ⟨d0, C, P, S, sq, B, b, len, n, p, a, v, rfl, ⟨hE, hM, hn, hp, hva, ha⟩, Or.inr w, fun L3 f3 m1 m2 m3 => ?_⟩
        have hq := h L3 f3 m1 m2 m3
        cases f3 with
        | true => exact ⟨⟨rfl, rfl⟩, hq⟩
        | false => exact ⟨⟨rfl, rfl⟩, hq⟩
      · have w : pd_k P p = 10 := by
          rw [ek] at nk0 nk1 nk2 nk3 nk4 nk5 nk6 nk7 nk8 nk9
          omega
        have hp1 : p + 1 < pd_m P := (ho.1 p (p + 1) hp (Or.inl ⟨rfl, by omega⟩)).2
        have hpl := ho.1 p (pd_l P p) hp (Or.inr ⟨w, rfl⟩)
        have el5 : Int32.ofNat b + Int32.ofNat (pd_l P p) = Int32.ofNat (b + pd_l P p) := wq_ad (by omega)
        have nl5 := wi_onn (n := b + pd_l P p) (by omega)
        have fin10 : ∀ (z : Int64) (add : Nat → Prop), (∀ (x : Int64) u, u < 64 → (nb (x ||| z) u = true ↔ nb x u = true ∨ add u)) → (∀ u, u < 64 → (add u ↔ sc_add P v (sc_W L1 B b) p n u)) → ∀ y, y = wv_u L1 B (b + p + 1) (L1 B (b + p + 1) ||| z) B (b + pd_l P p) ||| z → q (.inl (some (.int 0))) T1 N1 I1 (wv_u (wv_u L1 B (b + p + 1) (L1 B (b + p + 1) ||| z)) B (b + pd_l P p) y) R1 0 0 := fun z add hz hadd y hy => by
          have hT : ∀ q, sc_T P p q ↔ q = p + 1 ∨ q = pd_l P p := fun q => ⟨fun z => by
            rcases z with ⟨z, _⟩ | ⟨_, z⟩
            · exact Or.inl z
            · exact Or.inr z, fun z => z.elim (fun e => Or.inl ⟨e, by omega⟩) (fun e => Or.inr ⟨w, e⟩)⟩
          refine h _ false (sc_fin ho hn hp hM (fun q u hq hu => ?_) (fun s hs hsp => ?_) (fun s j hs hsp hks hj => ?_) ⟨fun z => by omega, fun z => by omega, fun z => by omega, fun z => by omega⟩) ⟨fun z => (by cases z), fun z => ?_⟩ (sc_FB_u (sc_FB_u sc_FB_r (by omega) (by omega)) (by omega) (by omega))
          · rw [hT]
            show nb (wv_u (wv_u L1 B (b + p + 1) _) B (b + pd_l P p) y B (b + q)) u = true ↔ nb (L1 B (b + q)) u = true ∨ _
            by_cases e2 : q = pd_l P p
            · subst e2
              rw [wv_u_at, hy, hz _ u hu, hadd u hu]
              by_cases e : pd_l P p = p + 1
              · rw [e, show b + (p + 1) = b + p + 1 by omega, wv_u_at, hz _ u hu, hadd u hu]
                exact ⟨fun y => y.elim (fun y1 => y1.elim Or.inl (fun y2 => Or.inr ⟨Or.inl rfl, y2⟩)) (fun y2 => Or.inr ⟨Or.inl rfl, y2⟩), fun y => y.elim (fun y1 => Or.inl (Or.inl y1)) (fun y2 => Or.inr y2.2)⟩
              · rw [wv_u_no _ _ (by omega)]
                exact ⟨fun y => y.elim Or.inl (fun y2 => Or.inr ⟨Or.inr rfl, y2⟩), fun y => y.elim Or.inl (fun y2 => Or.inr y2.2)⟩
            · rw [wv_u_no _ _ (by omega)]
              by_cases e : q = p + 1
              · subst e
                rw [show b + (p + 1) = b + p + 1 by omega, wv_u_at, hz _ u hu, hadd u hu]
                exact ⟨fun y => y.elim Or.inl (fun y2 => Or.inr ⟨Or.inl rfl, y2⟩), fun y => y.elim Or.inl (fun y2 => Or.inr y2.2)⟩
              · rw [wv_u_no _ _ (by omega)]
                exact ⟨Or.inl, fun z => z.elim id (fun y => (y.1.elim e e2).elim)⟩
          · rw [wv_u_no _ _ (by omega), wv_u_no _ _ (by omega)]
          · have s1 := sc_sl (k := I1 (C + 1)) (m := pd_m P) (i := s)
            rw [wv_u_no _ _ (by omega), wv_u_no _ _ (by omega)]
          · rcases z with z | z | z | z <;> omega
        refine ⟨_, tB, pp_b (c := len) (by omega) (by omega), ?_⟩
        rw [n5]
        refine ⟨fun w2 => ?_, fun w2 => ?_⟩
        · have w2f := wb_i_2.mp (fun z => z w2)
          refine ⟨_, tB, pp_b (c := len) (by omega) (by omega), hB40, ?_⟩
          rw [n5]
          refine ⟨d0, _, r4, _, t5, pp_b (c := 155) (by omega) (by omega), ?_⟩
          rw [epn, g5]
          refine ⟨_, tB, by rw [el5]; exact pp_b (c := len) (by omega) (by omega), ?_⟩
          rw [el5, nl5]
          refine ⟨fun _ => ?_, fun w3 => (w3 w2).elim⟩
          refine ⟨_, tB, pp_b (c := len) (by omega) (by omega), hB40, ⟨rfl, rfl⟩, ?_⟩
          rw [nl5]
          refine fin10 _ (fun _ => False) (fun x u hu => sc_zero) (fun u hu => ⟨fun z => ?_, fun z => ?_⟩) _ rfl
          · exact z.elim
          · rcases z with ⟨y0, _⟩ | ⟨y0, _⟩ | ⟨y0, _⟩ | ⟨y0, _⟩ | ⟨y0, _⟩ | ⟨y0, _⟩ | ⟨_, y1, y2⟩
            · omega
            · omega
            · omega
            · omega
            · omega
            · omega
            · have y2 : nb (L1 B (b + p)) n = true := y2
              rw [w2f] at y2
              cases y2
        · have w2t := wb_i_1.mp w2
          refine ⟨_, tB, pp_b (c := len) (by omega) (by omega), hB40, ?_⟩
          rw [n5]
          refine ⟨d0, _, r4, _, t5, pp_b (c := 155) (by omega) (by omega), ?_⟩
          rw [epn, g5]
          refine ⟨_, tB, by rw [el5]; exact pp_b (c := len) (by omega) (by omega), ?_⟩
          rw [el5, nl5]
          refine ⟨fun w3 => (w2 w3).elim, fun _ => ?_⟩
          refine ⟨_, tB, pp_b (c := len) (by omega) (by omega), hB40, ⟨rfl, rfl⟩, ?_⟩
          rw [nl5]
          refine fin10 _ (fun u => u = n) (fun x u hu => sc_bit (by omega)) (fun u hu => ⟨fun z => ?_, fun z => ?_⟩) _ rfl
          · exact Or.inr (Or.inr (Or.inr (Or.inr (Or.inr (Or.inr (⟨w, z, w2t⟩))))))
          · rcases z with ⟨y0, _⟩ | ⟨y0, _⟩ | ⟨y0, _⟩ | ⟨y0, _⟩ | ⟨y0, _⟩ | ⟨y0, _⟩ | ⟨_, y1, y2⟩
            · omega
            · omega
            · omega
            · omega
            · omega
            · omega
            · exact y1
    rw [if_neg p29] at hP
    cases hP
