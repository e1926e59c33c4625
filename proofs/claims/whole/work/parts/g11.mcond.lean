/-! ===== the reference: a condition ===== -/
def cd_c (c : cd_P) : Int32 := c.foldl lt_c (Int32.ofInt 0)
def pm_cc (I : Nat → Nat → Int32) (m0 : Nat) (cs : List cd_P) : Prop := ∀ i c, cs[i]? = some c → I 468 (m0 + i) = cd_c c
def pm_FC (m0 : Nat) (I I1 : Nat → Nat → Int32) : Prop := ∀ c j, ¬ (c = 460 ∧ 3 ≤ j ∧ j ≤ 8) → ¬ (c = 460 ∧ j = 18) → ¬ (c = 468 ∧ m0 ≤ j) → I1 c j = I c j
theorem pm_FC_F {m0 : Nat} {I J K : Nat → Nat → Int32} (h : pm_FC m0 I J) (h2 : pm_F J K) : pm_FC m0 I K := fun c j a b d => by rw [h2 c j a, h c j a b d]
theorem pm_YC {T : wv_T} {m0 : Nat} {I J : Nat → Nat → Int32} {t : Nat → Int32} {n : Nat} (h : wp_Y T I t n) (hF : pm_FC m0 I J) : wp_Y T J t n := wp_Y_D h (hF _ _ (by omega) (by omega) (by omega)) (fun k => hF _ _ (by omega) (by omega) (by omega))
theorem pm_Z_fr {t : Nat → Int32} {ts : List wt_t} {n : Nat} {s : wt_q} {I J : Nat → Nat → Int32} (h : pm_Z t ts n s I) (hJ : ∀ j, 3 ≤ j → j ≤ 8 → J 460 j = I 460 j) : pm_Z t ts n s J := by
  obtain ⟨⟨e, a1, a2⟩, b1, b2, b3⟩ := h
  refine ⟨⟨e, by rw [hJ 5 (by omega) (by omega)]; exact a1, a2⟩, by rw [hJ 8 (by omega) (by omega)]; exact b1, b2, fun z => ?_⟩
  rw [hJ 3 (by omega) (by omega), hJ 4 (by omega) (by omega), hJ 5 (by omega) (by omega), hJ 6 (by omega) (by omega), hJ 7 (by omega) (by omega)]
  exact b3 z
theorem pm_cc_F {m0 : Nat} {I J : Nat → Nat → Int32} {cs : List cd_P} (h : pm_cc I m0 cs) (hF : pm_F I J) : pm_cc J m0 cs := fun i c hi => by rw [hF _ _ (by omega)]; exact h i c hi
theorem cd_c_1 {c : cd_P} {o : Option lt_o} : lt_ca (cd_c c) o = cd_c (c ++ o.toList) := by
  cases o with
  | none => rw [show (none : Option lt_o).toList = [] from rfl, List.append_nil]; rfl
  | some o =>
    unfold cd_c
    rw [List.foldl_append]
    rfl
theorem tk_adv_len {ts : List wt_t} {s : wt_q} (h : s.1 ≤ ts.length) : (tk_adv ts s).1 ≤ ts.length := by
  unfold tk_adv
  split
  · rename_i h2 h3
    exact (List.getElem?_eq_some_iff.mp h3).1
  · exact h
theorem lt_s1_b {ts : List wt_t} {s : wt_q} (h : s.1 ≤ ts.length) : s.1 ≤ (lt_s1 ts s).1 ∧ (lt_s1 ts s).1 ≤ ts.length := by
  rcases lt_nt_s (ts := ts) (s := s) with e | e
  · rw [e]; exact ⟨Nat.le_refl _, h⟩
  · rw [e]; exact ⟨tk_adv_le, tk_adv_len h⟩
/-- how far a literal goes -/
theorem lt_b {ts : List wt_t} {n : Nat} {s : wt_q} (h : s.1 ≤ ts.length) : s.1 ≤ (lt ts n s).2.1 ∧ (lt ts n s).2.1 ≤ ts.length ∧ ((lt ts n s).2.2 = none → s.1 + 1 ≤ (lt ts n s).2.1) := by
  obtain ⟨h1, h2⟩ := lt_s1_b h
  have key : ∀ K : Int32, ¬ K = Int32.ofInt 2 → tk_now ts (lt_s1 ts s) = K → s.1 ≤ (tk_adv ts (lt_s1 ts s)).1 ∧ (tk_adv ts (lt_s1 ts s)).1 ≤ ts.length ∧ ((tk_adv ts (lt_s1 ts s)).2 = none → s.1 + 1 ≤ (tk_adv ts (lt_s1 ts s)).1) := by
    intro K hK e
    have := (tk_now_adv (ts := ts) (s := lt_s1 ts s) (by rw [e]; exact hK)).2.2
    have h3 := tk_adv_len (ts := ts) h2
    rw [this] at h3 ⊢
    dsimp only at h3 ⊢
    exact ⟨by omega, h3, fun _ => by omega⟩
  unfold lt
  split
  · rename_i e; exact key _ (by decide) e
  split
  · rename_i e; exact key _ (by decide) e
  split
  · rename_i e; exact key _ (by decide) e
  · have e := tk_ref_1 ts n (lt_s1 ts s)
    refine ⟨by show s.1 ≤ (tk_ref ts n (lt_s1 ts s)).1; omega, by show (tk_ref ts n (lt_s1 ts s)).1 ≤ _; omega, fun z => ?_⟩
    have z : (tk_ref ts n (lt_s1 ts s)).2 = none := z
    unfold tk_ref tk_refAt at z
    split at z
    · cases z
    · rename_i hs
      rw [hs] at z
      cases z
/-- a condition under way, in the reference -/
def cd_B (ts : List wt_t) (n m0 f : Nat) (s : wt_q) (x : cd_S) : Prop := cd ts n f x = cd_all ts n s ∧ x.2.2.1 ≤ ts.length ∧ m0 + x.1.length ≤ x.2.2.1 ∧ (x.2.2.2 = none → 401 ≤ f + x.2.2.1 ∧ m0 + x.1.length + 1 ≤ x.2.2.1)
theorem cd_B_0 {ts : List wt_t} {n m0 : Nat} {s : wt_q} (h : s.1 ≤ ts.length) (hm : m0 ≤ s.1) : cd_B ts n m0 400 s (cd_0 ts n s) := by
  obtain ⟨a, b, c⟩ := lt_b (n := n) h
  refine ⟨rfl, b, ?_, fun z => ?_⟩
  · show m0 + 0 ≤ (lt ts n s).2.1
    omega
  · have := c z
    show 401 ≤ 400 + (lt ts n s).2.1 ∧ m0 + 0 + 1 ≤ (lt ts n s).2.1
    omega
theorem cd_B_1 {ts : List wt_t} {n m0 f : Nat} {s : wt_q} {x : cd_S} (hl : ts.length ≤ 401) (h : cd_B ts n m0 f s x) (hg : cd_go ts x) : ∃ f2, cd_B ts n m0 f2 s (cd_1 ts n x) ∧ x.2.2.1 + 1 ≤ (cd_1 ts n x).2.2.1 ∧ x.2.2.1 < 401 := by
  obtain ⟨b1, b2, b3, b4⟩ := h
  obtain ⟨g1, g2, g3⟩ := tk_now_adv (ts := ts) (s := x.2.2) (by rcases hg with z | z <;> rw [z] <;> decide)
  obtain ⟨c1, c2⟩ := b4 g1
  obtain ⟨l1, l2, l3⟩ := lt_b (n := n) (tk_adv_len (ts := ts) b2)
  rw [g3] at l1 l2 l3
  dsimp only at l1
  have ex : (cd_1 ts n x).2.2 = (lt ts n (x.2.2.1 + 1, none)).2 := by
    unfold cd_1
    rw [g3]
    split
    · rfl
    · rfl
  have el : (cd_1 ts n x).1.length ≤ x.1.length + 1 := by
    unfold cd_1
    split
    · show (x.1 ++ [x.2.1]).length ≤ _
      rw [List.length_append]
      exact Nat.le_refl _
    · show x.1.length ≤ _
      omega
  obtain ⟨f2, rfl⟩ : ∃ f2, f = f2 + 1 := ⟨f - 1, by omega⟩
  refine ⟨f2, ⟨by rw [← b1]; exact (cd_at hg).symm, by rw [ex]; exact l2, by rw [ex]; omega, fun z => ?_⟩, by rw [ex]; omega, by omega⟩
  rw [ex] at z ⊢
  have := l3 z
  dsimp only at this
  omega
theorem cd_B_end {ts : List wt_t} {n m0 f : Nat} {s : wt_q} {x : cd_S} (h : cd_B ts n m0 f s x) (hg : ¬ cd_go ts x) : x = cd_all ts n s := by
  rw [← h.1, cd_no hg]
def pm_h363 (t : Nat → Int32) (ts : List wt_t) (n m0 : Nat) (s : wt_q) (T : wv_T) (N : Nat) (I : Nat → Nat → Int32) (L : Nat → Nat → Int64) (R : Nat → Nat → Option Nat) : Nat → Option (Nat → wv_P) := fun pc =>
  if pc = 24 then some (fun mm lv st T1 N1 I1 L1 R1 nc ns => ∃ (f : Nat) (x : cd_S), lv = [some (.ref 460), some (.int (Int32.ofNat m0)), some (.int (Int32.ofInt 1)), some (.int (cd_c x.2.1)), none] ∧ st = [] ∧ T1 = T ∧ N1 = N ∧ L1 = L ∧ R1 = R ∧ nc = 0 ∧ ns = 0 ∧ mm = 2 * (1000 - x.2.2.1) + 1 ∧ cd_B ts n m0 f s x ∧ pm_Z t ts n x.2.2 I1 ∧ I1 460 18 = Int32.ofNat (m0 + x.1.length) ∧ pm_cc I1 m0 x.1 ∧ pm_FC m0 I I1)
  else if pc = 53 then some (fun mm lv st T1 N1 I1 L1 R1 nc ns => ∃ (f : Nat) (x : cd_S), lv = [some (.ref 460), some (.int (Int32.ofNat m0)), some (.int (Int32.ofInt 1)), some (.int (cd_c x.2.1)), none] ∧ st = [] ∧ T1 = T ∧ N1 = N ∧ L1 = L ∧ R1 = R ∧ nc = 0 ∧ ns = 0 ∧ mm = 2 * (1000 - x.2.2.1) ∧ cd_B ts n m0 f s x ∧ pm_Z t ts n x.2.2 I1 ∧ I1 460 18 = Int32.ofNat (m0 + x.1.length) ∧ pm_cc I1 m0 x.1 ∧ pm_FC m0 I I1 ∧ ¬ tk_now ts x.2.2 = (Int8.ofInt 7).toInt32)
  else if pc = 106 then some (fun mm lv st T1 N1 I1 L1 R1 nc ns => ∃ x3, lv = [some (.ref 460), some (.int (Int32.ofNat m0)), some (.int (Int32.ofInt 0)), x3, none] ∧ st = [] ∧ T1 = T ∧ N1 = N ∧ L1 = L ∧ R1 = R ∧ nc = 0 ∧ ns = 0 ∧ mm = 0 ∧ pm_Z t ts n (cd_all ts n s).2.2 I1 ∧ I1 460 18 = Int32.ofNat (m0 + (cd_all ts n s).1.length + 1) ∧ pm_cc I1 m0 ((cd_all ts n s).1 ++ [(cd_all ts n s).2.1]) ∧ pm_FC m0 I I1)
  else none
def pm_c363 : wv_c1 := fun as T N I L R q => ∃ (t : Nat → Int32) (ts : List wt_t) (n m0 k0 : Nat) (s : wt_q), as = [.ref 460] ∧ wp_Y T I t n ∧ pm_T ts n ∧ pm_Z t ts n s I ∧ s.2 = none ∧ ts.length ≤ 401 ∧ s.1 ≤ ts.length ∧ I 460 18 = Int32.ofNat m0 ∧ m0 ≤ s.1 ∧ I 460 16 = Int32.ofNat k0 ∧ k0 < 800 ∧ ∀ J, pm_Z t ts n (cd_all ts n s).2.2 J → J 460 18 = Int32.ofNat (m0 + (cd_all ts n s).1.length + 1) → pm_cc J m0 ((cd_all ts n s).1 ++ [(cd_all ts n s).2.1]) → pm_FC m0 I J → q (.inl (some (.int (Int32.ofNat k0)))) T N (wv_u (pm_mk J k0 (Int8.ofInt 60).toInt32 (Int32.ofNat m0) (Int32.ofNat (m0 + (cd_all ts n s).1.length + 1)) (Int32.ofInt 0) (Int32.ofInt 0)) 467 k0 (Int32.ofInt 1)) L R 0 0
set_option maxRecDepth 100000 in
theorem wM_363 : ∃ cb ci np, pt_mt 363 = some (32, cb, 4, false, some .int, ci, np) := ⟨_, _, _, rfl⟩
set_option maxRecDepth 100000 in
set_option maxHeartbeats 4000000 in
theorem pm_condition {sc : pt_Sc} {d : Nat} : wv_C wm_fx sc (d + 1 + 1 + 1 + 1 + 1 + 1) 363 pm_c363 := by
  rintro as T N I L R q ⟨t, ts, n, m0, k0, s, rfl, hY, hTs, hZ, hs, hl, hsl, h18, hm0, h16, hk0, h⟩ w0 HR
  obtain ⟨cb, ci, np, hm⟩ := wM_363
  have hc348 : wv_C wm_fx sc (d + 1 + 1 + 1 + 1 + 1) 348 pm_c348 := wv_C_deep (by omega) (pm_next (d := d))
  have hc364 : wv_C wm_fx sc (d + 1 + 1 + 1 + 1 + 1) 364 pm_c364 := wv_C_deep (by omega) (pm_literal (d := d))
  have hc365 : wv_C wm_fx sc (d + 1 + 1 + 1 + 1 + 1) 365 pm_c365 := wv_C_deep (by omega) (pm_make (d := d))
  refine wv_meth (hh := none) rfl (sp := wv_sp [(348, pm_c348), (364, pm_c364), (365, pm_c365)]) (hd := pm_h363 t ts n m0 s T N I L R) (n := 300) (n1 := 300) hm zc_363 rfl (wv_sp_ok (fun q hq => by
    rcases List.mem_cons.mp hq with h | h
    · rw [h]; exact hc348
    rcases List.mem_cons.mp h with h | h
    · rw [h]; exact hc364
    rw [List.mem_singleton.mp h]; exact hc365)) ?_ ?_ HR
  · have h8 := pm_8 hZ
    have hlt : ¬ 0 ≤ I 460 8 := fun w => (h8.mp w) hs
    refine ⟨fun w => absurd (show Int32.ofInt 1 = 0 from w) (by decide), fun _ => ?_⟩
    refine ⟨fun w => (hlt w).elim, fun _ => ?_⟩
    refine ⟨t, ts, n, s, _, rfl, hY, hTs, hZ, hs, fun J hJ hF => ?_⟩
    refine ⟨_, 400, cd_0 ts n s, ?_, rfl, rfl, rfl, rfl, rfl, rfl, rfl, rfl, cd_B_0 hsl hm0, hJ, by rw [hF _ _ (by omega)]; exact h18, fun i c hi => (by cases hi), fun c j a b d => hF c j a⟩
    rw [show cd_c (cd_0 ts n s).2.1 = lt_ca (Int32.ofInt 0) (lt ts n s).1 from (cd_c_1 (c := [])).symm, ← h18]
    rfl
  · intro pc P hP m lv st T1 N1 I1 L1 R1 nc ns hh
    unfold pm_h363 at hP
    split at hP
    · cases hP
      rename_i hpc
      subst hpc
      obtain ⟨f, x, rfl, rfl, rfl, rfl, rfl, rfl, rfl, rfl, hmm, hB, hZ1, h181, hcc, hFC⟩ := hh
      have h8 := pm_8 hZ1
      have hi := hB.2.1
      refine ⟨fun w => ?_, fun w => ?_⟩
      · refine ⟨_, ?_, f, x, rfl, rfl, rfl, rfl, rfl, rfl, rfl, rfl, rfl, hB, hZ1, h181, hcc, hFC, fun z => ?_⟩
        · omega
        · exact (h8.mp w) (tk_now_adv (ts := ts) (s := x.2.2) (by rw [z]; decide)).1
      · have hs1 : x.2.2.2 = none := Decidable.not_not.mp (fun z => w (h8.mpr z))
        have hk := pm_kind hTs hZ1 hs1 pr_kc_7
        refine ⟨fun w2 => ?_, fun w2 => ?_⟩
        · refine ⟨_, ?_, f, x, rfl, rfl, rfl, rfl, rfl, rfl, rfl, rfl, rfl, hB, hZ1, h181, hcc, hFC, fun z => w2 (hk.mpr z)⟩
          omega
        · have h7 := hk.mp (Decidable.not_not.mp w2)
          have h78 : ¬ tk_now ts x.2.2 = (Int8.ofInt 8).toInt32 := by rw [h7]; decide
          obtain ⟨f2, hB2, hlt2, hlt3⟩ := cd_B_1 hl hB (Or.inl h7)
          have hadv := (tk_now_adv (ts := ts) (s := x.2.2) (by rw [h7]; decide)).2.2
          refine ⟨t, ts, n, x.2.2, rfl, pm_YC hY hFC, hZ1, fun _ => by rw [h7]; exact ⟨by decide, by decide⟩, fun J hJ hF => ?_⟩
          refine ⟨t, ts, n, tk_adv ts x.2.2, _, rfl, pm_Y (pm_YC hY hFC) hF, hTs, hJ, by rw [hadv], fun J2 hJ2 hF2 => ?_⟩
          have e1 : cd_1 ts n x = (x.1, x.2.1 ++ (lt ts n (tk_adv ts x.2.2)).1.toList, (lt ts n (tk_adv ts x.2.2)).2) := if_neg h78
          have hF3 := pm_F_tr hF hF2
          refine ⟨_, ?_, f2, cd_1 ts n x, ?_, rfl, rfl, rfl, rfl, rfl, rfl, rfl, rfl, hB2, by rw [e1]; exact hJ2, by rw [e1, hF3 _ _ (by omega)]; exact h181, by rw [e1]; exact pm_cc_F hcc hF3, pm_FC_F hFC hF3⟩
          · omega
          · rw [e1]
            show _ = [some (Value.ref 460), some (Value.int (Int32.ofNat m0)), some (Value.int (Int32.ofInt 1)), some (Value.int (cd_c (x.2.1 ++ (lt ts n (tk_adv ts x.2.2)).1.toList))), none]
            rw [← cd_c_1]
            rfl
    · split at hP
      · cases hP
        rename_i hpc
        subst hpc
        obtain ⟨f, x, rfl, rfl, rfl, rfl, rfl, rfl, rfl, rfl, hmm, hB, hZ1, h181, hcc, hFC, hn7⟩ := hh
        have hi := hB.2.1
        have hi3 := hB.2.2.1
        have en := wi_on (n := m0 + x.1.length) (by omega)
        have enn := wi_onn (n := m0 + x.1.length) (by omega)
        have hT := hY.1.1
        refine ⟨_, wm_t hT rfl, by rw [h181, wi_le, en, wi_0]; exact ⟨by omega, by omega⟩, by decide, ?_⟩
        rw [h181, enn]
        have s18 : (wv_u (wv_u I1 468 (m0 + x.1.length) (cd_c x.2.1)) 460 18 ((wv_u I1 468 (m0 + x.1.length) (cd_c x.2.1)) 460 18 + Int32.ofInt 1)) 460 18 = Int32.ofNat (m0 + x.1.length + 1) := by
          rw [wv_u_at, wv_u_no _ _ (by omega), h181]
          exact wq_4s _
        have sZ : pm_Z t ts n x.2.2 (wv_u (wv_u I1 468 (m0 + x.1.length) (cd_c x.2.1)) 460 18 ((wv_u I1 468 (m0 + x.1.length) (cd_c x.2.1)) 460 18 + Int32.ofInt 1)) := pm_Z_fr hZ1 (fun j a b => by rw [wv_u_no _ _ (by omega), wv_u_no _ _ (by omega)])
        have scc : pm_cc (wv_u (wv_u I1 468 (m0 + x.1.length) (cd_c x.2.1)) 460 18 ((wv_u I1 468 (m0 + x.1.length) (cd_c x.2.1)) 460 18 + Int32.ofInt 1)) m0 (x.1 ++ [x.2.1]) := by
          intro i c hi2
          rw [wv_u_no _ _ (by omega)]
          by_cases e : i < x.1.length
          · rw [List.getElem?_append_left e] at hi2
            rw [wv_u_no _ _ (by omega)]
            exact hcc i c hi2
          · rw [List.getElem?_append_right (by omega)] at hi2
            have e0 : i - x.1.length = 0 := by
              have := (List.getElem?_eq_some_iff.mp hi2).1
              rw [List.length_singleton] at this
              omega
            rw [e0] at hi2
            cases hi2
            rw [show m0 + i = m0 + x.1.length by omega]
            exact wv_u_at _ _ _ _
        have sFC : pm_FC m0 I (wv_u (wv_u I1 468 (m0 + x.1.length) (cd_c x.2.1)) 460 18 ((wv_u I1 468 (m0 + x.1.length) (cd_c x.2.1)) 460 18 + Int32.ofInt 1)) := fun c j a b d => by
          rw [wv_u_no _ _ (by omega), wv_u_no _ _ (by omega)]
          exact hFC c j a b d
        have h8 := pm_8 sZ
        refine ⟨fun w => ?_, fun w => ?_⟩
        · have hng : ¬ cd_go ts x := fun z => (h8.mp w) (tk_now_adv (ts := ts) (s := x.2.2) (by rcases z with z | z <;> rw [z] <;> decide)).1
          have ex := cd_B_end hB hng
          refine ⟨fun _ => ?_, fun z => (z rfl).elim⟩
          refine ⟨fun _ => ?_, fun z => (z rfl).elim⟩
          rw [ex] at s18 sZ scc
          exact ⟨0, by omega, _, rfl, rfl, rfl, rfl, rfl, rfl, rfl, rfl, rfl, by rw [← ex] at sZ ⊢; exact sZ, by rw [← ex] at s18 ⊢; exact s18, by rw [← ex] at scc ⊢; exact scc, sFC⟩
        · have hs1 : x.2.2.2 = none := Decidable.not_not.mp (fun z => w (h8.mpr z))
          have hk := pm_kind hTs sZ hs1 pr_kc_8
          refine ⟨fun w2 => ?_, fun w2 => ?_⟩
          · have hng : ¬ cd_go ts x := fun z => z.elim hn7 (fun z => w2 (hk.mpr z))
            have ex := cd_B_end hB hng
            refine ⟨fun _ => ?_, fun z => (z rfl).elim⟩
            refine ⟨fun _ => ?_, fun z => (z rfl).elim⟩
            exact ⟨0, by omega, _, rfl, rfl, rfl, rfl, rfl, rfl, rfl, rfl, rfl, by rw [← ex]; exact sZ, by rw [← ex]; exact s18, by rw [← ex]; exact scc, sFC⟩
          · have hn8 := hk.mp (Decidable.not_not.mp w2)
            obtain ⟨f2, hB2, hlt2, hlt3⟩ := cd_B_1 hl hB (Or.inr hn8)
            have hadv := (tk_now_adv (ts := ts) (s := x.2.2) (by rw [hn8]; decide)).2.2
            refine ⟨fun z => absurd (show Int32.ofInt 1 = 0 from z) (by decide), fun _ => ?_⟩
            refine ⟨t, ts, n, x.2.2, rfl, pm_YC hY sFC, sZ, fun _ => by rw [hn8]; exact ⟨by decide, by decide⟩, fun J hJ hF => ?_⟩
            refine ⟨fun z => absurd (show Int32.ofInt 1 = 0 from z) (by decide), fun _ => ?_⟩
            have hsa : (tk_adv ts x.2.2).2 = none := by rw [hadv]
            refine ⟨fun z => (((pm_8 hJ).mp z) hsa).elim, fun _ => ?_⟩
            refine ⟨t, ts, n, tk_adv ts x.2.2, _, rfl, pm_Y (pm_YC hY sFC) hF, hTs, hJ, hsa, fun J2 hJ2 hF2 => ?_⟩
            have e1 : cd_1 ts n x = (x.1 ++ [x.2.1], (lt ts n (tk_adv ts x.2.2)).1.toList, (lt ts n (tk_adv ts x.2.2)).2) := if_pos hn8
            have hF3 := pm_F_tr hF hF2
            refine ⟨_, ?_, f2, cd_1 ts n x, ?_, rfl, rfl, rfl, rfl, rfl, rfl, rfl, rfl, hB2, by rw [e1]; exact hJ2, ?_, by rw [e1]; exact pm_cc_F scc hF3, pm_FC_F sFC hF3⟩
            · omega
            · rw [e1]
              show _ = [some (Value.ref 460), some (Value.int (Int32.ofNat m0)), some (Value.int (Int32.ofInt 1)), some (Value.int (cd_c ([] ++ (lt ts n (tk_adv ts x.2.2)).1.toList))), none]
              rw [← cd_c_1]
              rfl
            · rw [e1, hF3 _ _ (by omega), s18]
              show _ = Int32.ofNat (m0 + (x.1 ++ [x.2.1]).length)
              rw [List.length_append]
              rfl
      · split at hP
        · cases hP
          rename_i hpc
          subst hpc
          obtain ⟨x3, rfl, rfl, rfl, rfl, rfl, rfl, rfl, rfl, hmm, hZ1, h181, hcc, hFC⟩ := hh
          have hT := hY.1.1
          have ek := wi_on (n := k0) (by omega)
          have ekn := wi_onn (n := k0) (by omega)
          have h161 : I1 460 16 = Int32.ofNat k0 := by rw [hFC _ _ (by omega) (by omega) (by omega)]; exact h16
          refine ⟨k0, _, _, _, _, _, rfl, hT, h161, hk0, ?_⟩
          refine ⟨_, wm_t hT rfl, ⟨by rw [wi_le, ek, wi_0]; omega, by rw [ek]; omega⟩, by decide, ?_⟩
          rw [ekn, h181]
          exact h I1 hZ1 h181 hcc hFC
        · cases hP
