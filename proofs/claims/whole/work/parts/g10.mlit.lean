/-! ===== the reference: nodes, literals ===== -/
/-- a node more -/
def pm_mk (I : Nat → Nat → Int32) (m : Nat) (k l r a b : Int32) : Nat → Nat → Int32 := wv_u (wv_u (wv_u (wv_u (wv_u (wv_u (wv_u I 462 m k) 463 m l) 464 m r) 465 m a) 466 m b) 467 m (Int32.ofInt 0)) 460 16 (Int32.ofNat (m + 1))
theorem pm_mk_no {I : Nat → Nat → Int32} {m : Nat} {k l r a b : Int32} {c j : Nat} (h : ¬ (462 ≤ c ∧ c ≤ 467 ∧ j = m)) (h2 : ¬ (c = 460 ∧ j = 16)) : pm_mk I m k l r a b c j = I c j := by
  unfold pm_mk
  rw [wv_u_no _ _ (by omega), wv_u_no _ _ (by omega), wv_u_no _ _ (by omega), wv_u_no _ _ (by omega), wv_u_no _ _ (by omega), wv_u_no _ _ (by omega), wv_u_no _ _ (by omega)]
def pm_c365 : wv_c1 := fun as T N I L R q => ∃ (m0 : Nat) (k l r a b : Int32), as = [.ref 460, .int k, .int l, .int r, .int a, .int b] ∧ wm_T T ∧ I 460 16 = Int32.ofNat m0 ∧ m0 < 800 ∧ q (.inl (some (.int (Int32.ofNat m0)))) T N (pm_mk I m0 k l r a b) L R 0 0
set_option maxRecDepth 100000 in
theorem wM_365 : ∃ cb ci np, pt_mt 365 = some (32, cb, 6, false, some .int, ci, np) := ⟨_, _, _, rfl⟩
set_option maxRecDepth 100000 in
set_option maxHeartbeats 4000000 in
theorem pm_make {sc : pt_Sc} {d : Nat} : wv_C wm_fx sc (d + 1) 365 pm_c365 := by
  rintro as T N I L R q ⟨m0, k, l, r, a, b, rfl, hT, h16, hm0, h⟩ w0 HR
  obtain ⟨cb, ci, np, hm⟩ := wM_365
  refine wv_meth (hh := none) rfl (sp := fun _ _ _ _ _ _ _ _ => False) (hd := fun _ => none) (n := 0) (n1 := 300) hm zc_365 rfl (fun k as T N I L R q h => by cases h) ?_ (fun pc P h => by cases h) HR
  have em := wi_on (n := m0) (by omega)
  have emn := wi_onn (n := m0) (by omega)
  have bd : 0 ≤ Int32.ofNat m0 ∧ (Int32.ofNat m0).toInt < (800 : Nat) := ⟨by rw [wi_le, em, wi_0]; omega, by rw [em]; omega⟩
  have u0 : I 460 16 = Int32.ofNat m0 := by exact h16
  have u1 : (wv_u I 462 m0 k) 460 16 = Int32.ofNat m0 := by rw [wv_u_no _ _ (by omega)]; exact h16
  have u2 : (wv_u (wv_u I 462 m0 k) 463 m0 l) 460 16 = Int32.ofNat m0 := by rw [wv_u_no _ _ (by omega)]; rw [wv_u_no _ _ (by omega)]; exact h16
  have u3 : (wv_u (wv_u (wv_u I 462 m0 k) 463 m0 l) 464 m0 r) 460 16 = Int32.ofNat m0 := by rw [wv_u_no _ _ (by omega)]; rw [wv_u_no _ _ (by omega)]; rw [wv_u_no _ _ (by omega)]; exact h16
  have u4 : (wv_u (wv_u (wv_u (wv_u I 462 m0 k) 463 m0 l) 464 m0 r) 465 m0 a) 460 16 = Int32.ofNat m0 := by rw [wv_u_no _ _ (by omega)]; rw [wv_u_no _ _ (by omega)]; rw [wv_u_no _ _ (by omega)]; rw [wv_u_no _ _ (by omega)]; exact h16
  have u5 : (wv_u (wv_u (wv_u (wv_u (wv_u I 462 m0 k) 463 m0 l) 464 m0 r) 465 m0 a) 466 m0 b) 460 16 = Int32.ofNat m0 := by rw [wv_u_no _ _ (by omega)]; rw [wv_u_no _ _ (by omega)]; rw [wv_u_no _ _ (by omega)]; rw [wv_u_no _ _ (by omega)]; rw [wv_u_no _ _ (by omega)]; exact h16
  have u6 : (wv_u (wv_u (wv_u (wv_u (wv_u (wv_u I 462 m0 k) 463 m0 l) 464 m0 r) 465 m0 a) 466 m0 b) 467 m0 (Int32.ofInt 0)) 460 16 = Int32.ofNat m0 := by rw [wv_u_no _ _ (by omega)]; exact u5
  refine ⟨_, wm_t hT rfl, by rw [u0]; exact bd, by decide, ?_⟩
  rw [u0, emn]
  refine ⟨_, wm_t hT rfl, by rw [u1]; exact bd, by decide, ?_⟩
  rw [u1, emn]
  refine ⟨_, wm_t hT rfl, by rw [u2]; exact bd, by decide, ?_⟩
  rw [u2, emn]
  refine ⟨_, wm_t hT rfl, by rw [u3]; exact bd, by decide, ?_⟩
  rw [u3, emn]
  refine ⟨_, wm_t hT rfl, by rw [u4]; exact bd, by decide, ?_⟩
  rw [u4, emn]
  refine ⟨_, wm_t hT rfl, by rw [u5]; exact bd, by decide, ?_⟩
  rw [u5, emn]
  have e2 : Int32.ofNat m0 = wv_u (wv_u (wv_u (wv_u (wv_u (wv_u (wv_u I 462 m0 k) 463 m0 l) 464 m0 r) 465 m0 a) 466 m0 b) 467 m0 (Int32.ofInt 0)) 460 16 (wv_u (wv_u (wv_u (wv_u (wv_u (wv_u I 462 m0 k) 463 m0 l) 464 m0 r) 465 m0 a) 466 m0 b) 467 m0 (Int32.ofInt 0) 460 16 + Int32.ofInt 1) 460 16 - Int32.ofInt 1 := by
    rw [wv_u_at, u6, wq_4s m0, wi_s1 (by omega) (by omega)]
    rfl
  have key : ∀ x y : Int32, x = y → q (.inl (some (.int x))) T N (wv_u (wv_u (wv_u (wv_u (wv_u (wv_u (wv_u I 462 m0 k) 463 m0 l) 464 m0 r) 465 m0 a) 466 m0 b) 467 m0 (Int32.ofInt 0)) 460 16 (wv_u (wv_u (wv_u (wv_u (wv_u (wv_u I 462 m0 k) 463 m0 l) 464 m0 r) 465 m0 a) 466 m0 b) 467 m0 (Int32.ofInt 0) 460 16 + Int32.ofInt 1)) L R 0 0 → q (.inl (some (.int y))) T N (wv_u (wv_u (wv_u (wv_u (wv_u (wv_u (wv_u I 462 m0 k) 463 m0 l) 464 m0 r) 465 m0 a) 466 m0 b) 467 m0 (Int32.ofInt 0)) 460 16 (wv_u (wv_u (wv_u (wv_u (wv_u (wv_u I 462 m0 k) 463 m0 l) 464 m0 r) 465 m0 a) 466 m0 b) 467 m0 (Int32.ofInt 0) 460 16 + Int32.ofInt 1)) L R 0 0 := by
    rintro x y rfl hx
    exact hx
  exact key _ _ e2 (by rw [u6, wq_4s]; exact h)
/-- a literal in a cell of the reference -/
def lt_c (c : Int32) (o : lt_o) : Int32 := if o.2 < 6 then c ||| (Int32.ofInt 1 <<< ((Int32.ofNat o.2 + (if o.1 = true then (Int8.ofInt 6).toInt32 else Int32.ofInt 0)) &&& 31)) else if decide (o.2 = 7) = o.1 then c ||| (Int16.ofInt 4096).toInt32 else c
def lt_ca (c : Int32) (o : Option lt_o) : Int32 := match o with | none => c | some o => lt_c c o
theorem lt_s1_n {ts : List wt_t} {s : wt_q} (hs : s.2 = none) : (lt_s1 ts s).2 = none := by
  unfold lt_s1
  split
  · rename_i h
    have h := of_decide_eq_true h
    rw [(tk_now_adv (ts := ts) (s := s) (by rw [h]; decide)).2.2]
  · exact hs
def pm_h364 (t : Nat → Int32) (ts : List wt_t) (n : Nat) (s : wt_q) (c0 : Int32) (T : wv_T) (N : Nat) (I : Nat → Nat → Int32) (L : Nat → Nat → Int64) (R : Nat → Nat → Option Nat) : Nat → Option (Nat → wv_P) := fun pc =>
  if pc = 15 then some (fun mm lv st T1 N1 I1 L1 R1 nc ns => lv = [some (.ref 460), some (.int c0), some (.int (wp_b (lt_nt ts s))), none, none, none] ∧ st = [] ∧ T1 = T ∧ N1 = N ∧ I1 = I ∧ L1 = L ∧ R1 = R ∧ nc = 0 ∧ ns = 0 ∧ mm = 3)
  else if pc = 23 then some (fun mm lv st T1 N1 I1 L1 R1 nc ns => lv = [some (.ref 460), some (.int c0), some (.int (wp_b (lt_nt ts s))), none, none, none] ∧ st = [] ∧ T1 = T ∧ N1 = N ∧ L1 = L ∧ R1 = R ∧ nc = 0 ∧ ns = 0 ∧ mm = 2 ∧ pm_Z t ts n (lt_s1 ts s) I1 ∧ pm_F I I1)
  else none
def pm_c364 : wv_c1 := fun as T N I L R q => ∃ (t : Nat → Int32) (ts : List wt_t) (n : Nat) (s : wt_q) (c0 : Int32), as = [.ref 460, .int c0] ∧ wp_Y T I t n ∧ pm_T ts n ∧ pm_Z t ts n s I ∧ s.2 = none ∧ ∀ I1, pm_Z t ts n (lt ts n s).2 I1 → pm_F I I1 → q (.inl (some (.int (lt_ca c0 (lt ts n s).1)))) T N I1 L R 0 0
set_option maxRecDepth 100000 in
theorem wM_364 : ∃ cb ci np, pt_mt 364 = some (32, cb, 4, false, some .int, ci, np) := ⟨_, _, _, rfl⟩
set_option maxRecDepth 100000 in
set_option maxHeartbeats 4000000 in
theorem pm_literal {sc : pt_Sc} {d : Nat} : wv_C wm_fx sc (d + 1 + 1 + 1 + 1 + 1) 364 pm_c364 := by
  rintro as T N I L R q ⟨t, ts, n, s, c0, rfl, hY, hTs, hZ, hs, h⟩ w0 HR
  obtain ⟨cb, ci, np, hm⟩ := wM_364
  have hc348 : wv_C wm_fx sc (d + 1 + 1 + 1 + 1) 348 pm_c348 := wv_C_deep (by omega) (pm_next (d := d))
  have hc358 : wv_C wm_fx sc (d + 1 + 1 + 1 + 1) 358 wp_c358 := wv_C_deep (by omega) (wp_badC (d := d))
  refine wv_meth (hh := none) rfl (sp := wv_sp [(348, pm_c348), (358, wp_c358)]) (hd := pm_h364 t ts n s c0 T N I L R) (n := 300) (n1 := 300) hm zc_364 rfl (wv_sp_ok (fun q hq => by
    rcases List.mem_cons.mp hq with h | h
    · rw [h]; exact hc348
    rw [List.mem_singleton.mp h]; exact hc358)) ?_ ?_ HR
  · have h20 := pm_kind hTs hZ hs pr_kc_6
    refine ⟨fun w => ?_, fun w => ?_⟩
    · exact ⟨3, by rw [show lt_nt ts s = false from decide_eq_false (fun z => w (h20.mpr z))]; rfl, rfl, rfl, rfl, rfl, rfl, rfl, rfl, rfl, rfl⟩
    · exact ⟨3, by rw [show lt_nt ts s = true from decide_eq_true (h20.mp (Decidable.not_not.mp w))]; rfl, rfl, rfl, rfl, rfl, rfl, rfl, rfl, rfl, rfl⟩
  · intro pc P hP m lv st T1 N1 I1 L1 R1 nc ns hh
    unfold pm_h364 at hP
    split at hP
    · cases hP
      rename_i hpc
      subst hpc
      obtain ⟨rfl, rfl, rfl, rfl, rfl, rfl, rfl, rfl, rfl, hmm⟩ := hh
      refine ⟨fun w => ?_, fun w => ?_⟩
      · have e : lt_s1 ts s = s := by unfold lt_s1; rw [if_neg (by rw [wp_b0 w]; decide)]
        exact ⟨2, by omega, rfl, rfl, rfl, rfl, rfl, rfl, rfl, rfl, rfl, by rw [e]; exact hZ, pm_F_id _⟩
      · have e : lt_s1 ts s = tk_adv ts s := by unfold lt_s1; rw [if_pos (wp_b1 w)]
        have e6 := of_decide_eq_true (wp_b1 w)
        refine ⟨t, ts, n, s, rfl, hY, hZ, fun _ => by rw [e6]; exact ⟨by decide, by decide⟩, fun J hJ hF => ?_⟩
        exact ⟨2, by omega, rfl, rfl, rfl, rfl, rfl, rfl, rfl, rfl, rfl, by rw [e]; exact hJ, hF⟩
    · split at hP
      · cases hP
        rename_i hpc
        subst hpc
        obtain ⟨rfl, rfl, rfl, rfl, rfl, rfl, rfl, rfl, hmm, hZ1, hF⟩ := hh
        have hs1 := lt_s1_n (ts := ts) hs
        obtain ⟨x, l, e, _, ha, hn, hv, _, h3, h4, _⟩ := pm_at hTs hZ1 hs1
        have h7 := pr_mc_le7 hv
        rw [← h3] at h7
        have hY1 := pm_Y hY hF
        refine ⟨fun w => ?_, fun w => ?_⟩
        · have hx := h7.mp w
          have hadv : ∀ J, pm_Z t ts n (tk_adv ts (lt_s1 ts s)) J → pm_F I1 J → ∀ o, lt ts n s = (some o, tk_adv ts (lt_s1 ts s)) → q (.inl (some (.int (lt_c c0 o)))) T1 N1 J L1 R1 0 0 := by
            intro J hJ hF2 o ho
            have := h J (by rw [ho]; exact hJ) (pm_F_tr hF hF2)
            rw [ho] at this
            exact this
          refine ⟨t, ts, n, lt_s1 ts s, rfl, hY1, hZ1, fun _ => ?_, fun J hJ hF2 => ?_⟩
          · rw [hn]
            rcases hx with z | z | z <;> (rw [z]; exact ⟨by decide, by decide⟩)
          have hadv := hadv J hJ hF2
          have k3 : ∀ c, tk_now ts (lt_s1 ts s) = c ↔ x.1 = c := fun c => by rw [hn]
          rcases hx with z | z | z
          · -- a signal
            have w3 : tk_now ts (lt_s1 ts s) = Int32.ofInt 3 := (k3 _).mpr z
            have eo : lt ts n s = (some (lt_nt ts s, lt_v ts (lt_s1 ts s)), tk_adv ts (lt_s1 ts s)) := by unfold lt; rw [if_pos w3]
            obtain ⟨v1, v2⟩ := lt_v_ok hTs.1 w3
            have hadv := hadv _ eo
            generalize lt_v ts (lt_s1 ts s) = v at v1 v2 hadv
            have e3 : I1 460 3 = Int32.ofNat v := by rw [h3, pr_mc_3 z, ← tk_low_at ha]; exact v1
            have ev := wi_on (n := v) (by omega)
            rw [e3]
            unfold lt_c at hadv
            rw [if_pos (show (lt_nt ts s, v).2 < 6 from v2)] at hadv
            refine ⟨fun w6 => ?_, fun _ => ?_⟩
            · rw [wi_le, ev, show ((Int8.ofInt 6).toInt32).toInt = 6 from rfl] at w6
              omega
            refine ⟨fun w7 => ?_, fun w7 => ?_⟩
            · rw [show (lt_nt ts s, v).1 = false from wp_b0 w7] at hadv
              exact hadv
            · rw [show (lt_nt ts s, v).1 = true from wp_b1 w7] at hadv
              exact hadv
          · -- 0
            have w3 : ¬ tk_now ts (lt_s1 ts s) = Int32.ofInt 3 := by rw [k3, z]; decide
            have w5 : ¬ tk_now ts (lt_s1 ts s) = Int32.ofInt 5 := by rw [k3, z]; decide
            have w4 : tk_now ts (lt_s1 ts s) = Int32.ofInt 4 := (k3 _).mpr z
            have eo : lt ts n s = (some (lt_nt ts s, 6), tk_adv ts (lt_s1 ts s)) := by unfold lt; rw [if_neg w3, if_neg w5, if_pos w4]
            have hadv := hadv _ eo
            have e3 : I1 460 3 = 6 := by rw [h3, pr_mc_n (by rw [z]; decide), z]; rfl
            rw [e3]
            refine ⟨fun _ => ?_, fun w6 => absurd (show (Int8.ofInt 6).toInt32 ≤ 6 by decide) w6⟩
            refine ⟨fun _ => ?_, fun w7 => absurd (show ¬ (6 : Int32) = (Int8.ofInt 7).toInt32 by decide) w7⟩
            refine ⟨fun w8 => ?_, fun w8 => ?_⟩
            · have eb : lt_nt ts s = true := by
                cases hb : lt_nt ts s with
                | true => rfl
                | false => exact (w8 (by rw [hb]; rfl)).elim
              rw [eb] at hadv
              exact hadv
            · have w8 := Decidable.not_not.mp w8
              have eb : lt_nt ts s = false := wp_b0 w8.symm
              rw [eb] at hadv
              exact hadv
          · -- 1
            have w3 : ¬ tk_now ts (lt_s1 ts s) = Int32.ofInt 3 := by rw [k3, z]; decide
            have w5 : tk_now ts (lt_s1 ts s) = Int32.ofInt 5 := (k3 _).mpr z
            have eo : lt ts n s = (some (lt_nt ts s, 7), tk_adv ts (lt_s1 ts s)) := by unfold lt; rw [if_neg w3, if_pos w5]
            have hadv := hadv _ eo
            have e3 : I1 460 3 = 7 := by rw [h3, pr_mc_n (by rw [z]; decide), z]; rfl
            rw [e3]
            refine ⟨fun _ => ?_, fun w6 => absurd (show (Int8.ofInt 6).toInt32 ≤ 7 by decide) w6⟩
            refine ⟨fun w7 => absurd (show (7 : Int32) = (Int8.ofInt 7).toInt32 by decide) w7, fun _ => ?_⟩
            refine ⟨fun w8 => ?_, fun w8 => ?_⟩
            · have eb : lt_nt ts s = false := by
                cases hb : lt_nt ts s with
                | false => rfl
                | true => exact (w8 (by rw [hb]; rfl)).elim
              rw [eb] at hadv
              exact hadv
            · have w8 := Decidable.not_not.mp w8
              have eb : lt_nt ts s = true := by
                cases hb : lt_nt ts s with
                | true => rfl
                | false =>
                  rw [hb] at w8
                  exact absurd w8 (by decide)
              rw [eb] at hadv
              exact hadv
        · -- no literal
          have nx : ¬ (x.1 = 3 ∨ x.1 = 4 ∨ x.1 = 5) := fun z => w (h7.mpr z)
          have eo : lt ts n s = (none, tk_ref ts n (lt_s1 ts s)) := by
            unfold lt
            rw [hn, if_neg (show ¬ x.1 = Int32.ofInt 3 from fun z => nx (Or.inl z)), if_neg (show ¬ x.1 = Int32.ofInt 5 from fun z => nx (Or.inr (Or.inr z))), if_neg (show ¬ x.1 = Int32.ofInt 4 from fun z => nx (Or.inr (Or.inl z)))]
          have hb := pm_bad hTs hZ1 hs1
          have h2 := h (wp_bad (I1 460 4) I1) (by rw [eo]; exact hb) (pm_F_tr hF pm_F_bad)
          rw [eo] at h2
          exact ⟨_, rfl, h2⟩
      · cases hP
