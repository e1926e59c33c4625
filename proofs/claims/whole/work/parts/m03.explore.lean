/-! ===== the class: sets are explored ===== -/
def kc_FI (E B : Nat) (I I1 : Nat → Nat → Int32) : Prop := ∀ c j, ¬ (c = E ∧ j = 7) → ¬ c = B → ¬ c = E + 2 → I1 c j = I c j
def kc_FL (E : Nat) (L L1 : Nat → Nat → Int64) : Prop := ∀ c j, ¬ c = E + 1 → L1 c j = L c j
/-- a sequence that lies apart -/
def kc_Q (T : wv_T) (I : Nat → Nat → Int32) (L : Nat → Nat → Int64) (R : Nat → Nat → Option Nat) (E Q : Nat) (A : nt_A) (w g : Nat) : Prop := sq_D T I L R Q A w g ∧ ∀ B2, R Q 0 = some B2 → ¬ B2 = E + 1
theorem kc_Q_F {T : wv_T} {I I1 : Nat → Nat → Int32} {L L1 : Nat → Nat → Int64} {R : Nat → Nat → Option Nat} {E B Q w g : Nat} {A : nt_A} (hD : kc_D T R E) (hB : kc_B T R E B) (h : kc_Q T I L R E Q A w g) (fI : kc_FI E B I I1) (fL : kc_FL E L L1) : kc_Q T I1 L1 R E Q A w g := by
  obtain ⟨⟨a1, a2, a3, a4, a5, a6, a7, a8, B2, len2, b1, b2, b3, b4⟩, hs⟩ := h
  have n0 : ¬ Q = E := fun z => by rw [z, hD.1] at a1; cases a1
  have n1 : ¬ Q = E + 1 := fun z => by rw [z, hD.2.2.2.2.2.1] at a1; cases a1
  have n2 : ¬ Q = E + 2 := fun z => by rw [z, hD.2.2.2.2.2.2.1] at a1; cases a1
  have n3 : ¬ Q = B := fun z => by rw [z, hB.2.1] at a1; cases a1
  refine ⟨⟨a1, ?_, ?_, ?_, a5, a6, fun t ht => ?_, fun t ht => ?_, B2, len2, b1, b2, b3, fun s v t hs2 hv hg ht => ?_⟩, hs⟩
  · rw [fI _ _ (fun z => n0 z.1) n3 n2]
    exact a2
  · rw [fI _ _ (fun z => n0 z.1) n3 n2]
    exact a3
  · rw [fI _ _ (fun z => n0 z.1) n3 n2]
    exact a4
  · rw [fL _ _ n1]
    exact a7 t ht
  · rw [fL _ _ n1]
    exact a8 t ht
  · rw [fL _ _ (hs B2 b1)]
    exact b4 s v t hs2 hv hg ht
def kc_l (E B g : Nat) (ss : List Int64) (tb : Nat → Nat → Nat) (a i : Nat) (I I1 : Nat → Nat → Int32) (L L1 : Nat → Nat → Int64) : Prop := kc_s E ss I1 L1 ∧ (∀ p k, kx_b a i p k → k < 2 ^ sb_c g → I1 B (p * 64 + sb_v g k) = Int32.ofNat (tb p (sb_v g k))) ∧ kc_FI E B I I1 ∧ kc_FL E L L1
theorem kc_l_t {B g a i j : Nat} {tb : Nat → Nat → Nat} {I1 I2 : Nat → Nat → Int32} (hg : g < 64) (hi : i < 2 ^ sb_c g) (h : ∀ p k, kx_b a i p k → k < 2 ^ sb_c g → I1 B (p * 64 + sb_v g k) = Int32.ofNat (tb p (sb_v g k))) (h2 : ∀ x, ¬ x = a * 64 + sb_v g i → I2 B x = I1 B x) (h3 : I2 B (a * 64 + sb_v g i) = Int32.ofNat j) : ∀ p k, kx_b a (i + 1) p k → k < 2 ^ sb_c g → I2 B (p * 64 + sb_v g k) = Int32.ofNat (kx_u tb a (sb_v g i) j p (sb_v g k)) := by
  intro p k hb hk
  rcases kx_b_s hb with z | ⟨z1, z2⟩
  · rw [kx_keep hg hi hk z, h2 _ (fun e => ?_)]
    · exact h p k z hk
    · have m1 := (sb_mem hg hk).1
      have m2 := (sb_mem hg hi).1
      have e1 : p = a := by omega
      have e2 := sb_inj hg hk hi (by omega)
      unfold kx_b at z
      omega
  · subst z1
    subst z2
    rw [kx_u_at]
    exact h3
theorem kc_l_old {E B g a i j : Nat} {ss : List Int64} {tb : Nat → Nat → Nat} {I I1 : Nat → Nat → Int32} {L L1 : Nat → Nat → Int64} (hg : g < 64) (hi : i < 2 ^ sb_c g) (hE : E + 4 < 460) (hB : 535 < B) (h : kc_l E B g ss tb a i I I1 L L1) : kc_l E B g ss (kx_u tb a (sb_v g i) j) a (i + 1) I (wv_u I1 B (a * 64 + sb_v g i) (Int32.ofNat j)) L L1 := by
  obtain ⟨⟨h1, h2, h3⟩, h4, h5, h6⟩ := h
  refine ⟨⟨by rw [wv_u_no _ _ (by omega)]; exact h1, h2, h3⟩, kc_l_t hg hi h4 (fun x hx => wv_u_no _ _ (by omega)) (wv_u_at _ _ _ _), fun c k z1 z2 z3 => ?_, h6⟩
  rw [wv_u_no _ _ (by omega)]
  exact h5 c k z1 z2 z3
theorem kc_l_new {E B g a i : Nat} {ss : List Int64} {tb : Nat → Nat → Nat} {y : Int64} {I I1 : Nat → Nat → Int32} {L L1 : Nat → Nat → Int64} (hg : g < 64) (hi : i < 2 ^ sb_c g) (hE : E + 4 < 460) (hB : 535 < B) (hl : ss.length < 66) (h : kc_l E B g ss tb a i I I1 L L1) : kc_l E B g (ss ++ [y]) (kx_u tb a (sb_v g i) ss.length) a (i + 1) I (wv_u (wv_u I1 E 7 (Int32.ofNat (ss.length + 1))) B (a * 64 + sb_v g i) (Int32.ofNat ss.length)) L (wv_u L1 (E + 1) ss.length y) := by
  obtain ⟨⟨h1, h2, h3⟩, h4, h5, h6⟩ := h
  have hlen : (ss ++ [y]).length = ss.length + 1 := List.length_append
  refine ⟨⟨?_, by omega, fun j w hw => ?_⟩, kc_l_t hg hi h4 (fun x hx => ?_) (wv_u_at _ _ _ _), fun c k z1 z2 z3 => ?_, fun c k z1 => ?_⟩
  · rw [wv_u_no _ _ (by omega), wv_u_at, hlen]
  · have hj := (List.getElem?_eq_some_iff.mp hw).1
    by_cases c : j = ss.length
    · subst c
      rw [List.getElem?_append_right (Nat.le_refl _), Nat.sub_self] at hw
      rw [wv_u_at]
      exact Option.some.inj hw
    · rw [List.getElem?_append_left (by omega)] at hw
      rw [wv_u_no _ _ (by omega)]
      exact h3 j w hw
  · rw [wv_u_no _ _ (by omega), wv_u_no _ _ (by omega)]
  · rw [wv_u_no _ _ (by omega), wv_u_no _ _ (by omega)]
    exact h5 c k z1 z2 z3
  · rw [wv_u_no _ _ (by omega)]
    exact h6 c k z1
theorem kc_l_row {E B g a i : Nat} {ss : List Int64} {tb : Nat → Nat → Nat} {I I1 : Nat → Nat → Int32} {L L1 : Nat → Nat → Int64} (h : kc_l E B g ss tb a i I I1 L L1) (hi : i = 2 ^ sb_c g) : kc_l E B g ss tb (a + 1) 0 I I1 L L1 := by
  refine ⟨h.1, fun p k hb hk => h.2.1 p k ?_ hk, h.2.2⟩
  unfold kx_b at *
  omega
/-- the kind of a set -/
def kc_kd (A : nt_A) (x : Int64) (k : Nat) : Prop := (k = 3 ∧ ∃ t, t < 64 ∧ nb x t = true ∧ nz_F A t) ∨ (k = 2 ∧ (¬ ∃ t, t < 64 ∧ nb x t = true ∧ nz_F A t) ∧ ∃ t, t < 64 ∧ nb x t = true ∧ t < nt_n A + 1 ∧ nz_l A t) ∨ (k = 0 ∧ (¬ ∃ t, t < 64 ∧ nb x t = true ∧ nz_F A t) ∧ ¬ ∃ t, t < 64 ∧ nb x t = true ∧ t < nt_n A + 1 ∧ nz_l A t)
def kc_lv (E Q a : Nat) (x3 x4 : Option Value) : List (Option Value) := [some (.ref E), some (.ref Q), some (.int (Int32.ofNat a)), x3, x4, none, none]
def kc_h207 (E B Q g : Nat) (A : nt_A) (T : wv_T) (N : Nat) (I : Nat → Nat → Int32) (L : Nat → Nat → Int64) (R : Nat → Nat → Option Nat) : Nat → Option (Nat → wv_P) := fun pc =>
  if pc = 14 then some (fun mm lv st T1 N1 I1 L1 R1 nc ns => ∃ (a : Nat) (ss : List Int64) (tb : Nat → Nat → Nat) (x3 x4 : Option Value), lv = kc_lv E Q a x3 x4 ∧ st = [] ∧ T1 = T ∧ N1 = N ∧ R1 = R ∧ nc = 0 ∧ ns = 0 ∧ kx A g ss tb a 0 ∧ kc_l E B g ss tb a 0 I I1 L L1 ∧ mm = 1000 * (100 - a) + 999)
  else if pc = 36 then some (fun mm lv st T1 N1 I1 L1 R1 nc ns => ∃ (a i v : Nat) (ss : List Int64) (tb : Nat → Nat → Nat), lv = kc_lv E Q a (some (.int (Int32.ofNat v))) (some (.int (Int32.ofNat (2 ^ sb_c g - i)))) ∧ st = [] ∧ T1 = T ∧ N1 = N ∧ R1 = R ∧ nc = 0 ∧ ns = 0 ∧ kx A g ss tb a i ∧ kc_l E B g ss tb a i I I1 L L1 ∧ a < ss.length ∧ i ≤ 2 ^ sb_c g ∧ (i < 2 ^ sb_c g → v = sb_v g i) ∧ mm = 1000 * (100 - a) + 2 ^ sb_c g - i)
  else if pc = 93 then some (fun mm lv st T1 N1 I1 L1 R1 nc ns => ∃ (j : Nat) (ss : List Int64) (tb : Nat → Nat → Nat) (kd : Nat → Nat) (x3 x4 : Option Value), lv = kc_lv E Q j x3 x4 ∧ st = [] ∧ T1 = T ∧ N1 = N ∧ R1 = R ∧ nc = 0 ∧ ns = 0 ∧ kx A g ss tb ss.length 0 ∧ kc_l E B g ss tb ss.length 0 I I1 L L1 ∧ j ≤ ss.length ∧ (∀ i x, i < j → ss[i]? = some x → I1 (E + 2) i = Int32.ofNat (kd i) ∧ kc_kd A x (kd i)) ∧ mm = 100 - j)
  else none
def kc_c207 : wv_c1 := fun as T N I L R q => ∃ (E B Q w g : Nat) (A : nt_A), as = [.ref E, .ref Q] ∧ kc_D T R E ∧ kc_B T R E B ∧ kc_Q T I L R E Q A w g ∧ nt_n A ≤ 6 ∧ I E 5 = Int32.ofNat g ∧ I E 6 = Int32.ofNat (2 ^ sb_c g) ∧ ∀ (ss : List Int64) (tb : Nat → Nat → Nat) (kd : Nat → Nat) I1 L1, kx A g ss tb ss.length 0 → kc_l E B g ss tb ss.length 0 I I1 L L1 → (∀ i x, ss[i]? = some x → I1 (E + 2) i = Int32.ofNat (kd i) ∧ kc_kd A x (kd i)) → q (.inl none) T N I1 L1 R 0 0
set_option maxRecDepth 100000 in
theorem wM_207 : ∃ cb ci np, pt_mt 207 = some (10, cb, 5, false, none, ci, np) := ⟨_, _, _, rfl⟩
set_option maxRecDepth 100000 in
set_option maxHeartbeats 4000000 in
theorem kc_explore {sc : pt_Sc} {d : Nat} : wv_C wm_fx sc (d + 1 + 1) 207 kc_c207 := by
  rintro as T N I L R q ⟨E, B, Q, w, g, A, rfl, hD, hB, hQ, hA, h5, h6, h⟩ w0 HR
  obtain ⟨cb, ci, np, hm⟩ := wM_207
  have hDD := hD
  obtain ⟨hE, r0, r1, r2, r3, t1, t2, t3, t4, hb⟩ := hDD
  have hBB := hB
  obtain ⟨b1, b2, b3, b4⟩ := hBB
  have hg := hQ.1.2.2.2.2.1
  have hp := sb_p hg
  have hc181 : wv_C wm_fx sc (d + 1) 181 sq_c181 := wv_C_deep (by omega) (sq_next (d := d))
  have hc208 : wv_C wm_fx sc (d + 1) 208 kc_c208 := wv_C_deep (by omega) (kc_findSet (d := d))
  have hc180 : wv_C wm_fx sc (d + 1) 180 sq_c180 := wv_C_deep (by omega) (sq_accepts (d := d))
  have hc198 : wv_C wm_fx sc (d + 1) 198 sq_c198 := wv_C_deep (by omega) (sq_canGoOn (d := d))
  refine wv_meth (hh := none) rfl (sp := wv_sp [(181, sq_c181), (208, kc_c208), (180, sq_c180), (198, sq_c198)]) (hd := kc_h207 E B Q g A T N I L R) (n := 300) (n1 := 300) hm zc_207 rfl (wv_sp_ok (fun q hq => by
    rcases List.mem_cons.mp hq with h | h
    · rw [h]; exact hc181
    rcases List.mem_cons.mp h with h | h
    · rw [h]; exact hc208
    rcases List.mem_cons.mp h with h | h
    · rw [h]; exact hc180
    rw [List.mem_singleton.mp h]; exact hc198)) ?_ ?_ HR
  · refine ⟨hE, _, r0, _, t1, pp_b (c := 66) (m := 0) (by omega) (by omega), (show E + 1 < 1099511627776 by omega), ⟨hE, (show E < 1099511627776 by omega)⟩, ?_⟩
    refine ⟨_, 0, [Int64.ofNat 1], fun _ _ => 0, none, none, rfl, rfl, rfl, rfl, rfl, rfl, rfl, kx_0, ⟨⟨wv_u_at _ _ _ _, by decide, fun j y hy => ?_⟩, fun p k hb _ => ?_, fun c j z1 z2 z3 => wv_u_no _ _ z1, fun c j z => wv_u_no _ _ (fun y => z y.1)⟩, rfl⟩
    · have hj := (List.getElem?_eq_some_iff.mp hy).1
      have hj : j < 1 := hj
      have e : j = 0 := by omega
      subst e
      have hy : some (Int64.ofNat 1) = some y := hy
      cases hy
      exact wv_u_at _ _ _ _
    · unfold kx_b at hb
      omega
  · intro pc P hP m lv st T1 N1 I1 L1 R1 nc ns hh
    unfold kc_h207 at hP
    by_cases p14 : pc = 14
    · rw [if_pos p14] at hP
      cases hP
      subst p14
      obtain ⟨a, ss, tb, x3, x4, rfl, rfl, rfl, rfl, rfl, rfl, rfl, hx, hl, rfl⟩ := hh
      have few := kc_few hx.2.1 hx.2.2.1
      have hal := hx.2.2.2.1
      have ea := wi_on (n := a) (by omega)
      have el := wi_on (n := ss.length) (by omega)
      have e66 : ((Int8.ofInt 66).toInt32).toInt = 66 := rfl
      refine ⟨fun w1 => ?_, fun w1 => ?_⟩
      · rw [wi_le, ea, e66] at w1
        omega
      refine ⟨hE, fun w2 => ?_, fun w2 => ?_⟩
      · have w2 : I1 E 7 ≤ Int32.ofNat a := w2
        rw [hl.1.1, wi_le, el, ea] at w2
        have e : a = ss.length := by omega
        subst e
        exact ⟨100 - 0, by omega, 0, ss, tb, fun _ => 0, x3, x4, rfl, rfl, rfl, rfl, rfl, rfl, rfl, hx, hl, Nat.zero_le _, fun i x hi => by omega, rfl⟩
      · have w2 : ¬ I1 E 7 ≤ Int32.ofNat a := w2
        rw [hl.1.1, wi_le, el, ea] at w2
        refine ⟨hE, 1000 * (100 - a) + 2 ^ sb_c g - 0, by omega, a, 0, 0, ss, tb, ?_, rfl, rfl, rfl, rfl, rfl, rfl, hx, hl, by omega, Nat.zero_le _, fun _ => (sb_v0 hg).symm, rfl⟩
        have e6 : I1 E 6 = Int32.ofNat (2 ^ sb_c g) := by
          rw [hl.2.2.1 _ _ (by omega) (by omega) (by omega)]
          exact h6
        rw [Nat.sub_zero, ← e6]
        rfl
    rw [if_neg p14] at hP
    by_cases p36 : pc = 36
    · rw [if_pos p36] at hP
      cases hP
      subst p36
      obtain ⟨a, i, v, ss, tb, rfl, rfl, rfl, rfl, rfl, rfl, rfl, hx, hl, ha, hi, hv, rfl⟩ := hh
      have few := kc_few hx.2.1 hx.2.2.1
      have en := wi_on (n := 2 ^ sb_c g - i) (by omega)
      refine ⟨fun w1 => ?_, fun w1 => ?_⟩
      · rw [wi_le, en, wi_0] at w1
        have e : i = 2 ^ sb_c g := by omega
        exact ⟨1000 * (100 - (a + 1)) + 999, by omega, a + 1, ss, tb, _, _, by unfold kc_lv; rw [← wq_4s a]; rfl, rfl, rfl, rfl, rfl, rfl, rfl, kx_row hx e ha, kc_l_row hl e, rfl⟩
      rw [wi_le, en, wi_0] at w1
      have hlt : i < 2 ^ sb_c g := by omega
      have hvk := hv hlt
      subst hvk
      obtain ⟨m2, m3⟩ := sb_mem hg hlt
      have e6 := wi_64 a (sb_v g i)
      have e8 := wi_onn (n := a * 64 + sb_v g i) (by omega)
      have bd := pp_b (m := a * 64 + sb_v g i) (c := 4224) (by omega) (by omega)
      have ean := wi_onn (n := a) (by omega)
      have ex : ss[a]? = some ss[a] := List.getElem?_eq_getElem ha
      have hQ1 := kc_Q_F hD hB hQ hl.2.2.1 hl.2.2.2
      have enx := sb_int ⟨g, hg⟩ ⟨sb_v g i, m2⟩
      dsimp only at enx
      have edec : Int32.ofNat (2 ^ sb_c g - i) + Int32.ofInt (-1) = Int32.ofNat (2 ^ sb_c g - (i + 1)) := by
        rw [show Int32.ofNat (2 ^ sb_c g - i) + Int32.ofInt (-1) = Int32.ofNat (2 ^ sb_c g - i) - Int32.ofInt 1 from by rw [Int32.sub_eq_add_neg]; rfl, wi_s1 (by omega) (by omega)]
        congr 1
      have e5 : I1 E 5 = Int32.ofNat g := by
        rw [hl.2.2.1 _ _ (by omega) (by omega) (by omega)]
        exact h5
      refine ⟨hE, _, b1, hE, _, r0, _, t1, pp_b (c := 66) (by omega) (by omega), ?_⟩
      rw [ean, hl.1.2.2 a _ ex]
      refine ⟨hQ1.1.1, Q, w, g, sb_v g i, A, ss[a], rfl, hQ1.1, m2, fun y hy => ?_⟩
      have hy : kc_nx A g ss[a] (sb_v g i) y := hy
      refine ⟨hE, E, y, ss, rfl, hD, hl.1, fun _ => by omega, fun j hj _ => ?_, fun hno => ?_⟩
      · refine ⟨_, b2, by rw [e6]; exact bd, b4, hE, hE, ?_⟩
        rw [e6, e8]
        refine ⟨1000 * (100 - a) + 2 ^ sb_c g - (i + 1), by omega, a, i + 1, sb_n g (sb_v g i), ss, kx_u tb a (sb_v g i) j, ?_, rfl, rfl, rfl, rfl, rfl, rfl, kx_old hg hx hlt ex hj hy, kc_l_old hg hlt hb b3 hl, ha, by omega, fun z => (sb_vn hg z), rfl⟩
        have e7 : wv_u I1 B (a * 64 + sb_v g i) (Int32.ofNat j) E 5 = Int32.ofNat g := by
          rw [wv_u_no _ _ (by omega)]
          exact e5
        unfold kc_lv
        rw [← enx, ← edec, ← e7]
        rfl
      · refine ⟨_, b2, by rw [e6]; exact bd, b4, hE, hE, ?_⟩
        rw [e6, e8]
        have hlen : (ss ++ [y]).length = ss.length + 1 := List.length_append
        refine ⟨1000 * (100 - a) + 2 ^ sb_c g - (i + 1), by omega, a, i + 1, sb_n g (sb_v g i), ss ++ [y], kx_u tb a (sb_v g i) ss.length, ?_, rfl, rfl, rfl, rfl, rfl, rfl, kx_new hg hA hx hlt ex hno hy, kc_l_new hg hlt hb b3 (by omega) hl, by omega, by omega, fun z => (sb_vn hg z), rfl⟩
        have e7 : wv_u (wv_u I1 E 7 (Int32.ofNat (ss.length + 1))) B (a * 64 + sb_v g i) (Int32.ofNat ss.length) E 5 = Int32.ofNat g := by
          rw [wv_u_no _ _ (by omega), wv_u_no _ _ (by omega)]
          exact e5
        unfold kc_lv
        rw [← enx, ← edec, ← e7]
        rfl
    rw [if_neg p36] at hP
    by_cases p93 : pc = 93
    · rw [if_pos p93] at hP
      cases hP
      subst p93
      obtain ⟨j, ss, tb, kd, x3, x4, rfl, rfl, rfl, rfl, rfl, rfl, rfl, hx, hl, hj, hk, rfl⟩ := hh
      have few := kc_few hx.2.1 hx.2.2.1
      have ej := wi_on (n := j) (by omega)
      have ejn := wi_onn (n := j) (by omega)
      have el := wi_on (n := ss.length) (by omega)
      refine ⟨hE, fun w1 => ?_, fun w1 => ?_⟩
      · have w1 : I1 E 7 ≤ Int32.ofNat j := w1
        rw [hl.1.1, wi_le, el, ej] at w1
        have e : j = ss.length := by omega
        subst e
        exact h ss tb kd I1 L1 hx hl (fun i x hi => hk i x (List.getElem?_eq_some_iff.mp hi).1 hi)
      have w1 : ¬ I1 E 7 ≤ Int32.ofNat j := w1
      rw [hl.1.1, wi_le, el, ej] at w1
      have hlt : j < ss.length := by omega
      have ex : ss[j]? = some ss[j] := List.getElem?_eq_getElem hlt
      have hQ1 := kc_Q_F hD hB hQ hl.2.2.1 hl.2.2.2
      have hF := hQ1.1.2.2.2.2.2.2.1
      have hG := hQ1.1.2.2.2.2.2.2.2.1
      have bd := pp_b (m := j) (c := 66) (by omega) (by omega)
      have acc : (∃ t, t < 64 ∧ nb ss[j] t = true ∧ nb (L1 Q 4) t = true) ↔ ∃ t, t < 64 ∧ nb ss[j] t = true ∧ nz_F A t := ⟨fun ⟨t, q1, q2, q3⟩ => ⟨t, q1, q2, (hF t q1).mp q3⟩, fun ⟨t, q1, q2, q3⟩ => ⟨t, q1, q2, (hF t q1).mpr q3⟩⟩
      have goo : (∃ t, t < 64 ∧ nb ss[j] t = true ∧ nb (L1 Q 5) t = true) ↔ ∃ t, t < 64 ∧ nb ss[j] t = true ∧ t < nt_n A + 1 ∧ nz_l A t := ⟨fun ⟨t, q1, q2, q3⟩ => ⟨t, q1, q2, (hG t q1).mp q3⟩, fun ⟨t, q1, q2, q3⟩ => ⟨t, q1, q2, (hG t q1).mpr q3⟩⟩
      have back : ∀ (k : Nat) (z3 z4 : Option Value), kc_kd A ss[j] k → ∃ m1, m1 < 100 - j ∧ ∃ (j2 : Nat) (ss2 : List Int64) (tb2 : Nat → Nat → Nat) (kd2 : Nat → Nat) (y3 y4 : Option Value), kc_lv E Q (j + 1) z3 z4 = kc_lv E Q j2 y3 y4 ∧ ([] : List Value) = [] ∧ T1 = T1 ∧ N1 = N1 ∧ R1 = R1 ∧ (0 : Nat) = 0 ∧ (0 : Nat) = 0 ∧ kx A g ss2 tb2 ss2.length 0 ∧ kc_l E B g ss2 tb2 ss2.length 0 I (wv_u I1 (E + 2) j (Int32.ofNat k)) L L1 ∧ j2 ≤ ss2.length ∧ (∀ i x, i < j2 → ss2[i]? = some x → wv_u I1 (E + 2) j (Int32.ofNat k) (E + 2) i = Int32.ofNat (kd2 i) ∧ kc_kd A x (kd2 i)) ∧ m1 = 100 - j2 := fun k z3 z4 hkk => by
        refine ⟨100 - (j + 1), by omega, j + 1, ss, tb, fun i => if i = j then k else kd i, z3, z4, rfl, rfl, rfl, rfl, rfl, rfl, rfl, hx, ⟨⟨?_, hl.1.2⟩, fun p k2 q1 q2 => ?_, fun c k2 q1 q2 q3 => ?_, hl.2.2.2⟩, by omega, fun i x q1 q2 => ?_, rfl⟩
        · rw [wv_u_no _ _ (by omega)]
          exact hl.1.1
        · rw [wv_u_no _ _ (by omega)]
          exact hl.2.1 p k2 q1 q2
        · rw [wv_u_no _ _ (by omega)]
          exact hl.2.2.1 c k2 q1 q2 q3
        · show wv_u I1 (E + 2) j (Int32.ofNat k) (E + 2) i = Int32.ofNat (if i = j then k else kd i) ∧ kc_kd A x (if i = j then k else kd i)
          by_cases c : i = j
          · subst c
            rw [wv_u_at, if_pos rfl]
            rw [ex] at q2
            cases q2
            exact ⟨rfl, hkk⟩
          · rw [wv_u_no _ _ (by omega), if_neg c]
            exact hk i x (by omega) q2
      refine ⟨hE, _, r0, _, t1, pp_b (c := 66) (by omega) (by omega), ?_⟩
      rw [ejn, hl.1.2.2 j _ ex]
      refine ⟨hQ1.1.1, Q, ss[j], rfl, hQ1.1.1, fun z => ?_, fun z => ?_⟩
      · refine ⟨hE, _, r1, ?_⟩
        refine ⟨fun y => absurd y (by decide), fun _ => ?_⟩
        refine ⟨_, t2, bd, (show E + 2 < 1099511627776 by omega), ?_⟩
        rw [ejn]
        obtain ⟨m1, q1, j2, ss2, tb2, kd2, y3, y4, q2, q3⟩ := back 3 (some (.int 1)) x4 (Or.inl ⟨rfl, acc.mp z⟩)
        exact ⟨m1, q1, j2, ss2, tb2, kd2, y3, y4, by rw [← q2]; unfold kc_lv; rw [← wq_4s j]; rfl, q3⟩
      · refine ⟨hE, _, r1, ?_⟩
        refine ⟨fun _ => ?_, fun y => absurd rfl y⟩
        refine ⟨hE, _, r0, _, t1, pp_b (c := 66) (by omega) (by omega), ?_⟩
        rw [ejn, hl.1.2.2 j _ ex]
        have nz : ¬ ∃ t, t < 64 ∧ nb ss[j] t = true ∧ nz_F A t := fun y => z (acc.mpr y)
        refine ⟨hQ1.1.1, Q, ss[j], rfl, hQ1.1.1, fun z2 => ?_, fun z2 => ?_⟩
        · refine ⟨fun y => absurd y (by decide), fun _ => ?_⟩
          refine ⟨_, t2, bd, (show E + 2 < 1099511627776 by omega), ?_⟩
          rw [ejn]
          obtain ⟨m1, q1, j2, ss2, tb2, kd2, y3, y4, q2, q3⟩ := back 2 (some (.int 0)) x4 (Or.inr (Or.inl ⟨rfl, nz, goo.mp z2⟩))
          exact ⟨m1, q1, j2, ss2, tb2, kd2, y3, y4, by rw [← q2]; unfold kc_lv; rw [← wq_4s j]; rfl, q3⟩
        · refine ⟨fun _ => ?_, fun y => absurd rfl y⟩
          refine ⟨_, t2, bd, (show E + 2 < 1099511627776 by omega), ?_⟩
          rw [ejn]
          obtain ⟨m1, q1, j2, ss2, tb2, kd2, y3, y4, q2, q3⟩ := back 0 (some (.int 0)) x4 (Or.inr (Or.inr ⟨rfl, nz, fun y => z2 (goo.mpr y)⟩))
          exact ⟨m1, q1, j2, ss2, tb2, kd2, y3, y4, by rw [← q2]; unfold kc_lv; rw [← wq_4s j]; rfl, q3⟩
    rw [if_neg p93] at hP
    cases hP
