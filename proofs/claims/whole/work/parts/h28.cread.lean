/-! ===== the class: read ===== -/
def wq_c101 : wv_c1 := fun as T N I L R q => ∃ pi : Int32, as = [.int pi] ∧ (pi < 0 ∨ Int32.ofInt 2 ≤ pi → q (.inr 2) T N I L R 1 6) ∧ (¬ (pi < 0 ∨ Int32.ofInt 2 ≤ pi) → q (.inl none) T N I L R 0 0)
set_option maxRecDepth 100000 in
theorem wM_101 : ∃ cb ci np, pt_mt 101 = some (1, cb, 1, false, none, ci, np) := ⟨_, _, _, rfl⟩
set_option maxRecDepth 100000 in
set_option maxHeartbeats 4000000 in
theorem wq_checkP {sc : pt_Sc} {d : Nat} : wv_C wm_fx sc (d + 1) 101 wq_c101 := by
  rintro as T N I L R q ⟨pi, rfl, q1, q2⟩ w0 HR
  obtain ⟨cb, ci, np, hm⟩ := wM_101
  refine wv_meth (hh := none) rfl (sp := fun _ _ _ _ _ _ _ _ => False) (hd := fun _ => none) (n := 0) (n1 := 300) hm zc_101 rfl (fun k as T N I L R q h => by cases h) ?_ (fun pc P h => by cases h) HR
  refine ⟨fun w => q1 (Or.inl w), fun w => ⟨fun w2 => q2 (fun z => z.elim w (fun z => ?_)), fun w2 => q1 (Or.inr ?_)⟩⟩
  · rw [wi_lt] at w2
    rw [wi_le] at z
    omega
  · rw [wi_lt] at w2
    rw [wi_le]
    omega
/-- the tokens of the class's text -/
def cd_ts (I : Nat → Nat → Int32) (n : Nat) : List wt_t := wt_lex (pr_st (wt_c I) n) n 400 0
/-- the spare property, and where properties lie -/
def rd_P (T : wv_T) (R : Nat → Nat → Option Nat) (C : Nat) : Prop := R 0 13 = some C ∧ ∃ k1, T 27 = some (.inr (k1 + 4, 2)) ∧ (∃ e, pt_cl[7]? = some e ∧ pt_tk (k1 + 4) = .object e.1)
theorem wt_A_lo {I I1 : Nat → Nat → Int32} {L L1 : Nat → Nat → Int64} (h : wt_A I L I1 L1) : (∀ c j, 8 ≤ c → I1 c j = I c j) ∧ ∀ c j, 8 ≤ c → L1 c j = L c j := ⟨fun c j hc => h.1 c j (by omega) (by omega), fun c j hc => h.2 c j (by omega)⟩
def wq_c100 : wv_c1 := fun as T N I L R q => ∃ (n C : Nat) (pi : Int32), as = [.ref 0, .int pi] ∧ (C = 28 ∨ C = 124 ∨ C = 220 ∨ C = 346) ∧ wm_T T ∧ wm_A T ∧ wt_S T I R ∧ pp_D T R C ∧ pq_O T N R ∧ wt_LW T L ∧ I 1 6 = Int32.ofNat n ∧ n ≤ 400 ∧ wt_tx (wt_c I) n ∧ 536 ≤ N ∧ N < 900000000 ∧ (∃ g, I 9 11 = Int32.ofNat g ∧ g < 64) ∧ rd_P T R C ∧ T 325 = some (.inl 11) ∧ T 333 = some (.inl 11) ∧ (pi < 0 ∨ Int32.ofInt 2 ≤ pi → q (.inr 2) T N I L R 1 6) ∧ ∀ p : Nat, p ≤ 1 → pi = Int32.ofNat p → ∃ Cp : Nat, R 27 p = some Cp ∧ Cp < 1000000 ∧ T Cp = some (.inl 7) ∧ ∀ T1 N1 I1 L1 R1 nc ns I2 L2, wt_A I L I2 L2 → cg_T C T N R T1 N1 R1 nc ns → cg_I C T I2 L2 R T1 I1 L1 → 3 * nc ≤ n + 1 → (∀ z, (ap_t (ap_fin (cd_ts I n) n)).2 = some z → z ≤ 400) → (¬ (ap_t (ap_fin (cd_ts I n) n)).2 = none → q (.inl (some (.int (wt_f (ap_t (ap_fin (cd_ts I n) n)).2)))) T1 N1 (wv_u I1 1 6 (Int32.ofInt 0)) L1 R1 nc ns) ∧ (∀ (S : rn_N) (x o : Nat) (s : wt_q) (sq : List Nat), ap_fin (cd_ts I n) n = (S, [], some x, o, s, sq, true) → s.2 = none → ap_I (cd_ts I n) S [] (some x) o s sq → rp_D (cd_ts I n) n C T1 I1 L1 R1 S x sq → q (.inl (some (.int (Int32.ofInt (-1))))) T1 N1 (wv_u (wv_u (wc 0 16 345 (wv_u I1 1 6 (Int32.ofInt 0))) 325 8 (Int32.ofInt 0)) 333 8 (Int32.ofInt 0)) L1 (wv_u (wv_u R1 27 p (some C)) 0 13 (some Cp)) nc ns)
set_option maxRecDepth 100000 in
theorem wM_100 : ∃ cb ci np, pt_mt 100 = some (1, cb, 4, false, some .int, ci, np) := ⟨_, _, _, rfl⟩
set_option maxRecDepth 100000 in
set_option maxHeartbeats 8000000 in
theorem wq_read {sc : pt_Sc} {d : Nat} (hf : wt_fv sc) : wv_C wm_fx sc (d + 1 + 1 + 1 + 1 + 1 + 1 + 1 + 1 + 1 + 1 + 1) 100 wq_c100 := by
  rintro as T N I L R q ⟨n, C, pi, rfl, hC, hT, hAl, hS, hD, hO, hLW, h16, hn4, htx, hN1, hN2, ⟨g, hg, hg6⟩, ⟨h13, k1, h27, hcl⟩, h325, h333, hbad, hgood⟩ w0 HR
  obtain ⟨cb, ci, np, hm⟩ := wM_100
  have hc101 : wv_C wm_fx sc (d + 1 + 1 + 1 + 1 + 1 + 1 + 1 + 1 + 1 + 1) 101 wq_c101 := wv_C_deep (by omega) (wq_checkP (d := d))
  have hc103 : wv_C wm_fx sc (d + 1 + 1 + 1 + 1 + 1 + 1 + 1 + 1 + 1 + 1) 103 (wt_scn 8 pr_st) := wv_C_deep (by omega) (pr_scan hf (d := d))
  have hc111 : wv_C wm_fx sc (d + 1 + 1 + 1 + 1 + 1 + 1 + 1 + 1 + 1 + 1) 111 pj_c111 := wv_C_deep (by omega) (pj_readInto (d := d))
  have hc79 : wv_C wm_fx sc (d + 1 + 1 + 1 + 1 + 1 + 1 + 1 + 1 + 1 + 1) 79 wp_c79 := wv_C_deep (by omega) (wp_cut (d := d))
  have hc19 : wv_C wm_fx sc (d + 1 + 1 + 1 + 1 + 1 + 1 + 1 + 1 + 1 + 1) 19 wq_c19 := wv_C_deep (by omega) (wq_empty (d := d))
  have hc80 : wv_C wm_fx sc (d + 1 + 1 + 1 + 1 + 1 + 1 + 1 + 1 + 1 + 1) 80 wh_c80 := wv_C_deep (by omega) (wh_forget (d := d))
  refine wv_meth (hh := none) rfl (sp := wv_sp [(101, wq_c101), (103, wt_scn 8 pr_st), (111, pj_c111), (79, wp_c79), (19, wq_c19), (80, wh_c80)]) (hd := fun _ => none) (n := 0) (n1 := 300) hm zc_100 rfl (wv_sp_ok (fun q hq => by
    rcases List.mem_cons.mp hq with h | h
    · rw [h]; exact hc101
    rcases List.mem_cons.mp h with h | h
    · rw [h]; exact hc103
    rcases List.mem_cons.mp h with h | h
    · rw [h]; exact hc111
    rcases List.mem_cons.mp h with h | h
    · rw [h]; exact hc79
    rcases List.mem_cons.mp h with h | h
    · rw [h]; exact hc19
    rw [List.mem_singleton.mp h]; exact hc80)) ?_ (fun pc P h => by cases h) HR
  refine ⟨pi, rfl, fun hb => ⟨Or.inr rfl, hbad hb⟩, fun hnb => ?_⟩
  obtain ⟨p, hp, rfl⟩ : ∃ p : Nat, p ≤ 1 ∧ pi = Int32.ofNat p := by
    have e2 : (Int32.ofInt 2).toInt = 2 := rfl
    have w1 : ¬ pi < 0 := fun z => hnb (Or.inl z)
    have w2 : ¬ Int32.ofInt 2 ≤ pi := fun z => hnb (Or.inr z)
    rw [wi_lt, wi_0] at w1
    rw [wi_le, e2] at w2
    refine ⟨pi.toNatClampNeg, by rw [wi_nat]; omega, ?_⟩
    apply wi_eq.mpr
    rw [wi_on (by rw [wi_nat]; omega), wi_nat]
    omega
  obtain ⟨Cp, hRp, hCp, hTp, hgood⟩ := hgood p hp rfl
  have epn := wi_onn (n := p) (by omega)
  refine ⟨n, rfl, hT, hS, h16, hn4, fun q hq => pr_st_le hn4 hq, fun I2 L2 hK2 hA2 => ?_⟩
  obtain ⟨a1, a2⟩ := wt_A_lo hA2
  have hv : ∀ y, y ∈ cd_ts I n → pr_vt y := fun y hy => pr_lex_vt hn4 _ _ y hy
  have hl : (cd_ts I n).length ≤ 401 := wt_lex_len 400 0
  have hw : ∀ i, i ≤ (cd_ts I n).length → wl (cd_ts I n) i ≤ n + 1 := fun i hi => by
    have := wl_lex htx 400 0 (Nat.zero_le _) i hi
    show wl (wt_lex (pr_st (wt_c I) n) n 400 0) i ≤ n + 1
    omega
  refine ⟨_, h13, cd_ts I n, n, C, rfl, hC, hT, hAl, hD, hO, wt_LW_L hLW (fun j => a2 _ _ (by omega)), hK2, hv, hl, hw, hn4, hN1, hN2, ⟨g, by rw [a1 _ _ (by omega)]; exact hg, hg6⟩, fun T1 N1 I1 L1 R1 nc ns hG hI h3 hKs hdone => ?_⟩
  have hz4 : ∀ z, (ap_t (ap_fin (cd_ts I n) n)).2 = some z → z ≤ 400 := fun z hz => by
    obtain ⟨s, e1, e2⟩ := hKs
    exact e2.2.2.2.2.2.2.2.1 z (e1.symm.trans hz)
  obtain ⟨qbad, qok⟩ := hgood T1 N1 I1 L1 R1 nc ns I2 L2 hA2 hG hI h3 hz4
  refine ⟨Int32.ofInt 0, rfl, ?_⟩
  refine ⟨fun w => ?_, fun w => ?_⟩
  · have hne : ¬ (ap_t (ap_fin (cd_ts I n) n)).2 = none := fun z => w (by rw [z]; rfl)
    have h4 := qbad hne
    rw [← Nat.zero_add nc, ← Nat.zero_add ns] at h4
    exact h4
  · have hno : (ap_t (ap_fin (cd_ts I n) n)).2 = none := by
      cases e : (ap_t (ap_fin (cd_ts I n) n)).2 with
      | none => rfl
      | some z =>
        have := hz4 z e
        have w := Decidable.not_not.mp w
        rw [e] at w
        have w : Int32.ofNat z = Int32.ofInt (-1) := w
        have e1 : (Int32.ofInt (-1)).toInt = -1 := rfl
        rw [wi_eq, wi_on (by omega), e1] at w
        omega
    obtain ⟨S, x, o, s, sq, d1, d2, d3⟩ := hdone hno
    have hs : s.2 = none := by
      rw [d1] at hno
      exact hno
    have h4 := qok S x o s sq d1 hs d2 d3
    have t27 : T1 27 = some (.inr (k1 + 4, 2)) := by rw [hG.2.2.2.2.2.2.1 27 (hAl 27 (by omega))]; exact h27
    have tC : T1 C = some (.inl 7) := hG.2.2.1.1
    have r27 : R1 27 p = some Cp := by rw [hG.2.2.2.2.2.2.2.1 27 p (hAl 27 (by omega)) (by omega)]; exact hRp
    have r13 : R1 0 13 = some C := by rw [hG.2.2.2.2.2.2.2.1 0 13 (hAl 0 (by omega)) (by omega)]; exact h13
    have t325 : T1 325 = some (.inl 11) := by rw [hG.2.2.2.2.2.2.1 325 (hAl 325 (by omega))]; exact h325
    have t333 : T1 333 = some (.inl 11) := by rw [hG.2.2.2.2.2.2.1 333 (hAl 333 (by omega))]; exact h333
    have kC : C < 1099511627776 := by omega
    refine ⟨_, _, _, t27, pp_b (m := p) (c := 2) (by omega) (by omega), by rw [epn]; exact r27, ?_⟩
    refine ⟨_, r13, _, _, _, ⟨t27, tC⟩, pp_b (m := p) (c := 2) (by omega) (by omega), ⟨by decide, kC⟩, hcl, ?_⟩
    rw [epn]
    refine ⟨rfl, hG.1, ?_⟩
    refine ⟨t325, 325, rfl, t325, by decide, ?_⟩
    refine ⟨t333, 333, rfl, t333, by decide, ?_⟩
    rw [← Nat.zero_add nc, ← Nat.zero_add ns] at h4
    rw [hno]
    exact h4
