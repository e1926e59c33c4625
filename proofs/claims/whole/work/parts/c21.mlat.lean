/-! ===== the reference: a latch ===== -/
/-- taking any token where there is a fault -/
def dm_c469f : wv_c1 := fun as T N I L R q => (∃ C : Int32, as = [.ref 460, .int C] ∧ 0 ≤ I 460 8 ∧ q (.inl none) T N I L R 0 0) ∨ dm_c469 as T N I L R q
def dm_c469e : wv_c1 := fun as T N I L R q => ∃ C : Int32, as = [.ref 460, .int C] ∧ 0 ≤ I 460 8 ∧ q (.inl none) T N I L R 0 0
set_option maxRecDepth 100000 in
set_option maxHeartbeats 4000000 in
theorem dm_takeE {sc : pt_Sc} {d : Nat} : wv_C wm_fx sc (d + 1 + 1 + 1 + 1 + 1) 469 dm_c469e := by
  rintro as T N I L R q ⟨C, rfl, hge, h⟩ w0 HR
  obtain ⟨cb, ci, np, hm⟩ := wM_469
  have hc358 : wv_C wm_fx sc (d + 1 + 1 + 1 + 1) 358 wp_c358 := wv_C_deep (by omega) (wp_badC (d := d))
  have hc466 : wv_C wm_fx sc (d + 1 + 1 + 1 + 1) 466 wp_c466 := wv_C_deep (by omega) (wp_nextOfDesign (d := d))
  refine wv_meth (hh := none) rfl (sp := wv_sp [(358, wp_c358), (466, wp_c466)]) (hd := fun _ => none) (n := 0) (n1 := 300) hm zc_469 rfl (wv_sp_ok (fun q hq => by
    rcases List.mem_cons.mp hq with h | h
    · rw [h]; exact hc358
    rw [List.mem_singleton.mp h]; exact hc466)) ?_ (fun pc P h => by cases h) HR
  refine ⟨fun _ => ?_, fun w => (w hge).elim⟩
  exact ⟨fun _ => h, fun w => (w hge).elim⟩
theorem dm_takeF {sc : pt_Sc} {d : Nat} : wv_C wm_fx sc (d + 1 + 1 + 1 + 1 + 1) 469 dm_c469f := by
  rintro as T N I L R q h w0 HR
  rcases h with h | h
  · exact dm_takeE as T N I L R q h w0 HR
  · exact dm_take as T N I L R q h w0 HR
def dm_lat (ts : List wt_t) (n : Nat) (nm : ds_n) (k : Nat) (s : wt_q) : Int64 × wt_q := ds_nn ts n nm (tk_take ts n (Int8.ofInt 34).toInt32 (if k = 5 then tk_ref ts n s else s))
def dm_lt (ts : List wt_t) (n : Nat) (s2 : wt_q) : wt_q := tk_take ts n (if tk_now ts s2 = Int32.ofInt 5 then Int32.ofInt 5 else Int32.ofInt 4) s2
def dm_LF (k : Nat) (I I1 : Nat → Nat → Int32) : Prop := ∀ c j, ¬ (c = 460 ∧ (j = 3 ∨ j = 4 ∨ j = 5 ∨ j = 8 ∨ j = 100 ∨ j = 102)) → ¬ (c = 527 ∨ c = 528 ∨ c = 529) → ¬ ((c = 532 ∨ c = 533) ∧ j = k) → I1 c j = I c j
def dm_h472 (t : Nat → Int32) (ts : List wt_t) (n : Nat) (nm : ds_n) (s0 : wt_q) (c2 : Int64) (s2 : wt_q) (s3 : wt_q) (T : wv_T) (N : Nat) (I : Nat → Nat → Int32) (L : Nat → Nat → Int64) (R : Nat → Nat → Option Nat) : Nat → Option (Nat → wv_P) := fun pc =>
  if pc = 16 then some (fun m lv st T1 N1 I1 L1 R1 nc ns => m = 10 ∧ lv = [some (.ref 460), none, none] ∧ st = [] ∧ T1 = T ∧ N1 = N ∧ L1 = L ∧ R1 = R ∧ nc = 0 ∧ ns = 0 ∧ dm_Z t ts n s0 I1 ∧ dm_F I I1)
  else if pc = 41 then some (fun m lv st T1 N1 I1 L1 R1 nc ns => ∃ b : Bool, m = 9 ∧ lv = [some (.ref 460), some (.int (wp_b b)), none] ∧ st = [] ∧ T1 = T ∧ N1 = N ∧ L1 = L ∧ R1 = R ∧ nc = 0 ∧ ns = 0 ∧ dm_Z t ts n s2 I1 ∧ dm_NN nm.length I I1 ∧ (s2.2 = none → dm_Np t n c2 nm.length I1 ∧ b = decide (tk_now ts s2 = Int32.ofInt 5)))
  else if pc = 74 then some (fun m lv st T1 N1 I1 L1 R1 nc ns => ∃ (b : Bool) (s' : wt_q), m = 8 ∧ lv = [some (.ref 460), some (.int (wp_b b)), none] ∧ st = [] ∧ T1 = T ∧ N1 = N ∧ L1 = L ∧ R1 = R ∧ nc = 0 ∧ ns = 0 ∧ dm_Z t ts n s' I1 ∧ dm_NN nm.length I I1 ∧ (s'.2 = none → dm_Np t n c2 nm.length I1 ∧ b = decide (tk_now ts s2 = Int32.ofInt 5) ∧ s' = s2 ∧ (tk_now ts s2 = Int32.ofInt 4 ∨ tk_now ts s2 = Int32.ofInt 5)) ∧ (¬ s'.2 = none → s3 = s'))
  else none
def dm_c472 : wv_c1 := fun as T N I L R q => ∃ (t : Nat → Int32) (ts : List wt_t) (n : Nat) (nm : ds_n) (s : wt_q) (A k : Nat), as = [.ref 460] ∧ wm_T T ∧ wp_Y T I t n ∧ dm_T t ts n ∧ dm_Z t ts n s I ∧ s.2 = none ∧ dm_N t n nm I ∧ nm.length < 60 ∧ I 460 101 = Int32.ofNat A ∧ A ≤ 3 ∧ I 460 102 = Int32.ofNat k ∧ k ≤ 5 ∧ ∀ I1, dm_Z t ts n (tk_take ts n (Int8.ofInt 9).toInt32 (dm_lt ts n (dm_lat ts n nm k s).2)) I1 → dm_LF k I I1 → ((tk_take ts n (Int8.ofInt 9).toInt32 (dm_lt ts n (dm_lat ts n nm k s).2)).2 = none → dm_N t n (nm ++ [((dm_lat ts n nm k s).1, Int32.ofNat (2 * (A + k + 1)))]) I1 ∧ I1 460 102 = Int32.ofNat (k + 1) ∧ I1 533 k = wp_b (decide (tk_now ts (dm_lat ts n nm k s).2 = Int32.ofInt 5)) ∧ I1 532 k = Int32.ofNat (2 * (1 + A + k))) → q (.inl none) T N I1 L R 0 0
set_option maxRecDepth 100000 in
theorem wM_472 : ∃ cb ci np, pt_mt 472 = some (32, cb, 2, false, none, ci, np) := ⟨_, _, _, rfl⟩
set_option maxRecDepth 100000 in
set_option maxHeartbeats 4000000 in
theorem dm_latchStatement {sc : pt_Sc} {d : Nat} : wv_C wm_fx sc (d + 1 + 1 + 1 + 1 + 1 + 1 + 1) 472 dm_c472 := by
  rintro as T N I L R q ⟨t, ts, n, nm, s, A, k, rfl, hT, hY, hTs, hZ, hs, hN, hnl, hkA, hA, hk1, hk, h⟩ w0 HR
  obtain ⟨cb, ci, np, hm⟩ := wM_472
  unfold dm_lat at h
  obtain ⟨s0, hs0⟩ : ∃ x, (if k = 5 then tk_ref ts n s else s) = x := ⟨_, rfl⟩
  rw [hs0] at h
  obtain ⟨s1, hs1⟩ : ∃ x, tk_take ts n (Int8.ofInt 34).toInt32 s0 = x := ⟨_, rfl⟩
  rw [hs1] at h
  obtain ⟨c2, s2, hs2⟩ : ∃ c x, ds_nn ts n nm s1 = (c, x) := ⟨_, _, rfl⟩
  rw [hs2] at h
  obtain ⟨s3, hs3⟩ : ∃ x, dm_lt ts n s2 = x := ⟨_, rfl⟩
  obtain ⟨s4, hs4⟩ : ∃ x, tk_take ts n (Int8.ofInt 9).toInt32 s3 = x := ⟨_, rfl⟩
  have h : ∀ I1, dm_Z t ts n s4 I1 → dm_LF k I I1 → (s4.2 = none → dm_N t n (nm ++ [(c2, Int32.ofNat (2 * (A + k + 1)))]) I1 ∧ I1 460 102 = Int32.ofNat (k + 1) ∧ I1 533 k = wp_b (decide (tk_now ts s2 = Int32.ofInt 5)) ∧ I1 532 k = Int32.ofNat (2 * (1 + A + k))) → q (.inl none) T N I1 L R 0 0 := by
    rw [← hs4, ← hs3]
    exact h
  have hc358 : wv_C wm_fx sc (d + 1 + 1 + 1 + 1 + 1 + 1) 358 wp_c358 := wv_C_deep (by omega) (wp_badC (d := d))
  have hc470 : wv_C wm_fx sc (d + 1 + 1 + 1 + 1 + 1 + 1) 470 dm_c470 := wv_C_deep (by omega) (dm_newName (d := d))
  have hc469 : wv_C wm_fx sc (d + 1 + 1 + 1 + 1 + 1 + 1) 469 dm_c469f := wv_C_deep (by omega) (dm_takeF (d := d))
  refine wv_meth (hh := none) rfl (sp := wv_sp [(358, wp_c358), (470, dm_c470), (469, dm_c469f)]) (hd := dm_h472 t ts n nm s0 c2 s2 s3 T N I L R) (n := 300) (n1 := 300) hm zc_472 rfl (wv_sp_ok (fun q hq => by
    rcases List.mem_cons.mp hq with h | h
    · rw [h]; exact hc358
    rcases List.mem_cons.mp h with h | h
    · rw [h]; exact hc470
    rw [List.mem_singleton.mp h]; exact hc469)) ?_ ?_ HR
  · have hpl := dm_tokZ hTs hZ hs
    have e3 : (Int32.ofNat k = Int32.ofInt 5) ↔ k = 5 := by
      rw [wi_eq, wi_on (by omega)]
      show (k : Int) = 5 ↔ k = 5
      omega
    refine ⟨fun w => ?_, fun w => ?_⟩
    · rw [hk1] at w
      have e : ¬ k = 5 := fun z => w (e3.mpr z)
      exact ⟨10, rfl, rfl, rfl, rfl, rfl, rfl, rfl, rfl, rfl, by rw [← hs0, if_neg e]; exact hZ, dm_F_id _⟩
    · rw [hk1] at w
      have e : k = 5 := e3.mp (Decidable.not_not.mp w)
      refine ⟨_, rfl, ?_⟩
      refine ⟨10, rfl, rfl, rfl, rfl, rfl, rfl, rfl, rfl, rfl, ?_, dm_F_bad⟩
      rw [← hs0, if_pos e, hpl.1]
      exact dm_Z_bad hZ hpl.2.1
  · intro pc P hP m lv st T1 N1 I1 L1 R1 nc ns hh
    unfold dm_h472 at hP
    split at hP
    · cases hP
      rename_i hpc
      subst hpc
      obtain ⟨rfl, rfl, rfl, rfl, rfl, rfl, rfl, rfl, rfl, z0, f0⟩ := hh
      refine Or.inr ⟨t, ts, n, s0, _, _, rfl, wp_Y_dF hY f0, hTs, z0, ds_kc_34, by decide, by decide, by decide, fun I2 z2 f2 => ?_⟩
      rw [hs1] at z2
      have F2 := dm_F_tr f0 f2
      refine ⟨t, ts, n, nm, s1, rfl, hT, wp_Y_dF hY F2, hTs, z2, dm_N_dF hN F2, fun I3 z3 f3 p3 => ?_⟩
      rw [hs2] at z3 p3
      have F3 := dm_NN_tr (dm_NN_F F2) f3
      have hk3 : s2.2 = none → (I3 460 3 = Int32.ofInt 7 ↔ tk_now ts s2 = Int32.ofInt 5) := fun hn => by
        obtain ⟨_, _, k3, kv, _⟩ := dm_tokZ hTs z3 hn
        rw [k3]
        exact ds_kc_5 _ kv
      refine ⟨fun w => ?_, fun w => ?_⟩
      · exact ⟨9, by omega, false, rfl, rfl, rfl, rfl, rfl, rfl, rfl, rfl, rfl, z3, F3, fun hn => ⟨p3 hn, (decide_eq_false (fun z => w ((hk3 hn).mpr z))).symm⟩⟩
      · exact ⟨9, by omega, true, rfl, rfl, rfl, rfl, rfl, rfl, rfl, rfl, rfl, z3, F3, fun hn => ⟨p3 hn, (decide_eq_true ((hk3 hn).mp (Decidable.not_not.mp w))).symm⟩⟩
    · split at hP
      · cases hP
        rename_i hpc0 hpc
        subst hpc
        obtain ⟨b, rfl, rfl, rfl, rfl, rfl, rfl, rfl, rfl, rfl, z2, F2, g2⟩ := hh
        have h8 := dm_Z_8 z2
        by_cases hn : s2.2 = none
        rotate_left
        · refine ⟨fun _ => ?_, fun w => (w (h8.mpr hn)).elim⟩
          obtain ⟨z, hz⟩ := Option.ne_none_iff_exists'.mp hn
          exact ⟨8, by omega, b, s2, rfl, rfl, rfl, rfl, rfl, rfl, rfl, rfl, rfl, z2, F2, fun w => (hn w).elim, fun _ => by rw [← hs3]; unfold dm_lt; exact tk_take_some hz (by split <;> decide)⟩
        obtain ⟨g3, g4⟩ := g2 hn
        obtain ⟨k4, kp, k3, kv, _⟩ := dm_tokZ hTs z2 hn
        have q4 : I1 460 3 = (Int8.ofInt 6).toInt32 ↔ tk_now ts s2 = Int32.ofInt 4 := by rw [k3]; exact ds_kc_4 _ kv
        have q5 : I1 460 3 = (Int8.ofInt 7).toInt32 ↔ tk_now ts s2 = Int32.ofInt 5 := by rw [k3]; exact ds_kc_5 _ kv
        refine ⟨fun w => (h8.mp w hn).elim, fun _ => ?_⟩
        refine ⟨fun w => ?_, fun w1 => ?_⟩
        · exact ⟨8, by omega, b, s2, rfl, rfl, rfl, rfl, rfl, rfl, rfl, rfl, rfl, z2, F2, fun _ => ⟨g3, g4, rfl, Or.inl (q4.mp w)⟩, fun w => (w hn).elim⟩
        refine ⟨fun w => ?_, fun w2 => ?_⟩
        · exact ⟨8, by omega, b, s2, rfl, rfl, rfl, rfl, rfl, rfl, rfl, rfl, rfl, z2, F2, fun _ => ⟨g3, g4, rfl, Or.inr (q5.mp w)⟩, fun w => (w hn).elim⟩
        have e : s3 = tk_refAt (tk_place ts n s2.1) s2 := by
          rw [← hs3]
          unfold dm_lt
          rw [if_neg (fun z => w2 (q5.mpr z))]
          unfold tk_take
          rw [if_neg (fun z => w1 (q4.mpr z))]
          rfl
        refine ⟨_, rfl, ?_⟩
        refine ⟨8, by omega, b, s3, rfl, rfl, rfl, rfl, rfl, rfl, rfl, rfl, rfl, ?_, dm_NN_tr F2 (dm_NN_F dm_F_bad), fun w => ?_, fun _ => rfl⟩
        · rw [e, k4]
          exact dm_Z_bad z2 kp
        · exfalso
          rw [e] at w
          unfold tk_refAt at w
          rw [hn] at w
          cases w
      · split at hP
        · cases hP
          rename_i hpc0 hpc1 hpc
          subst hpc
          obtain ⟨b, s', rfl, rfl, rfl, rfl, rfl, rfl, rfl, rfl, rfl, z2, F2, g2, g3⟩ := hh
          have h8 := dm_Z_8 z2
          by_cases hn : s'.2 = none
          rotate_left
          · have e3 := g3 hn
            subst e3
            have hge := h8.mpr hn
            obtain ⟨z, hz⟩ := Option.ne_none_iff_exists'.mp hn
            refine Or.inl ⟨_, rfl, hge, ?_⟩
            refine Or.inl ⟨_, rfl, hge, ?_⟩
            refine ⟨fun _ => ?_, fun w => (w hge).elim⟩
            rw [tk_take_some hz (by decide)] at hs4
            subst hs4
            exact h _ z2 (fun c j a b d => F2 c j (by omega) (by omega)) (fun w => (hn w).elim)
          obtain ⟨pp, hb, es, hkk⟩ := g2 hn
          subst es
          obtain ⟨k4, kp, k3, kv, _⟩ := dm_tokZ hTs z2 hn
          obtain ⟨K, C, hK, hC, hkc, c0, c1, c2'⟩ : ∃ K C : Int32, (if tk_now ts s' = Int32.ofInt 5 then Int32.ofInt 5 else Int32.ofInt 4) = K ∧ I1 460 3 = C ∧ ds_kc K C ∧ ¬ K = 0 ∧ ¬ K = 1 ∧ ¬ K = Int32.ofInt 2 := by
            rcases hkk with w | w
            · exact ⟨Int32.ofInt 4, (Int8.ofInt 6).toInt32, by rw [w]; decide, by rw [k3]; exact (ds_kc_4 _ kv).mpr w, ds_kc_4, by decide, by decide, by decide⟩
            · exact ⟨Int32.ofInt 5, (Int8.ofInt 7).toInt32, by rw [w]; decide, by rw [k3]; exact (ds_kc_5 _ kv).mpr w, ds_kc_5, by decide, by decide, by decide⟩
          refine Or.inr ⟨t, ts, n, s', K, C, congrArg (fun x => [Value.ref 460, Value.int x]) hC, wp_Y_NN hY F2, hTs, z2, hkc, c0, c1, c2', fun I3 z3 f3 => ?_⟩
          have e3 : tk_take ts n K s' = s3 := by rw [← hs3]; unfold dm_lt; rw [hK]
          rw [e3] at z3
          have F3 := dm_NN_tr F2 (dm_NN_F f3)
          refine Or.inr ⟨t, ts, n, s3, _, _, rfl, wp_Y_NN hY F3, hTs, z3, ds_kc_9, by decide, by decide, by decide, fun I4 z4 f4 => ?_⟩
          rw [hs4] at z4
          have F4 := dm_NN_tr F3 (dm_NN_F f4)
          have h84 := dm_Z_8 z4
          by_cases hn4 : s4.2 = none
          rotate_left
          · refine ⟨fun _ => ?_, fun w => (w (h84.mpr hn4)).elim⟩
            exact h _ z4 (fun c j a b d => F4 c j (by omega) (by omega)) (fun w => (hn4 w).elim)
          refine ⟨fun w => (h84.mp w hn4).elim, fun _ => ?_⟩
          obtain ⟨n1, n2, n3⟩ := hN
          have hN4 := dm_N_NN ⟨n1, n2, n3⟩ F4
          have j100 : I4 460 100 = Int32.ofNat nm.length := by rw [F4 _ _ (by omega) (by omega)]; exact n1
          have j101 : I4 460 101 = Int32.ofNat A := by rw [F4 _ _ (by omega) (by omega)]; exact hkA
          have j102 : I4 460 102 = Int32.ofNat k := by rw [F4 _ _ (by omega) (by omega)]; exact hk1
          have hk5 : k < 5 := by
            by_cases w : k = 5
            · exfalso
              have e0 : s0 = (s.1, some (tk_place ts n s.1)) := by rw [← hs0, if_pos w]; unfold tk_ref tk_refAt; rw [hs]
              have e1 : s1 = s0 := by rw [← hs1, e0]; exact tk_take_some rfl (by decide)
              have e2 : s' = s0 := by
                have := ds_nn_some (ts := ts) (n := n) (nm := nm) (s := s1) (z := tk_place ts n s.1) (by rw [e1, e0])
                rw [hs2, e1] at this
                exact this
              rw [e2, e0] at hn
              cases hn
            · omega
          have el := wi_on (n := nm.length) (by omega)
          have en := wi_onn (n := nm.length) (by omega)
          have ek := wi_on (n := k) (by omega)
          have enk := wi_onn (n := k) (by omega)
          have bk : 0 ≤ I4 460 102 ∧ (I4 460 102).toInt < (5 : Nat) := by rw [j102]; exact ⟨by rw [wi_le, ek, wi_0]; omega, by rw [ek]; omega⟩
          have bk2 : ∀ a v, 0 ≤ wv_u I4 533 a v 460 102 ∧ (wv_u I4 533 a v 460 102).toInt < (5 : Nat) := fun a v => by rw [wv_u_no _ _ (by omega)]; exact bk
          have bl : ∀ a v a2 v2 v3, 0 ≤ wv_u (wv_u (wv_u I4 533 a v) 532 a2 v2) 460 102 v3 460 100 ∧ (wv_u (wv_u (wv_u I4 533 a v) 532 a2 v2) 460 102 v3 460 100).toInt < (70 : Nat) := fun a v a2 v2 v3 => by rw [wv_u_no _ _ (by omega), wv_u_no _ _ (by omega), wv_u_no _ _ (by omega), j100]; exact ⟨by rw [wi_le, el, wi_0]; omega, by rw [el]; omega⟩
          refine ⟨_, wm_t hT rfl, bk, by decide, ?_⟩
          refine ⟨_, wm_t hT rfl, bk2 _ _, by decide, ?_⟩
          refine ⟨_, wm_t hT rfl, bl _ _ _ _ _, by decide, ?_⟩
          have hX : ∀ J, J = wv_u (wv_u (wv_u (wv_u (wv_u I4 533 k (wp_b b)) 532 k (Int32.ofNat (2 * (1 + A + k)))) 460 102 (Int32.ofNat (k + 1))) 529 nm.length (Int32.ofNat (2 * (A + k + 1)))) 460 100 (Int32.ofNat (nm.length + 1)) → q (.inl none) T1 N1 J L1 R1 0 0 := by
            intro J hJ
            have fJ : ∀ c j, ¬ (c = 460 ∧ (j = 100 ∨ j = 102)) → ¬ (c = 529 ∧ j = nm.length) → ¬ ((c = 532 ∨ c = 533) ∧ j = k) → J c j = I4 c j := fun c j a b d => by rw [hJ, wv_u_no _ _ (by omega), wv_u_no _ _ (by omega), wv_u_no _ _ (by omega), wv_u_no _ _ (by omega), wv_u_no _ _ (by omega)]
            refine h J (dm_Z_u z4 (fun j hj => fJ _ _ (by omega) (by omega) (by omega))) (fun c j a b d => by rw [fJ c j (by omega) (by omega) (by omega), F4 c j (by omega) (by omega)]) (fun _ => ⟨?_, ?_, ?_, ?_⟩)
            · obtain ⟨p, z, a1, a2, a3⟩ := pp
              refine dm_N_add hN4 hnl ⟨p, z, by rw [fJ _ _ (by omega) (by omega) (by omega), f4 _ _ (by omega), f3 _ _ (by omega)]; exact a1, by rw [fJ _ _ (by omega) (by omega) (by omega), f4 _ _ (by omega), f3 _ _ (by omega)]; exact a2, a3⟩ (by rw [hJ, wv_u_at]) (by rw [hJ, wv_u_no _ _ (by omega), wv_u_at]) (fun c j hc hj => fJ _ _ (by omega) (by omega) (by omega))
            · rw [hJ, wv_u_no _ _ (by omega), wv_u_no _ _ (by omega), wv_u_at]
            · rw [hJ, wv_u_no _ _ (by omega), wv_u_no _ _ (by omega), wv_u_no _ _ (by omega), wv_u_no _ _ (by omega), wv_u_at, hb]
            · rw [hJ, wv_u_no _ _ (by omega), wv_u_no _ _ (by omega), wv_u_no _ _ (by omega), wv_u_at]
          have hY2 : ∀ (a1 a2 a3 : Nat) (v1 v2 v3 v4 v5 : Int32), a1 = k → a2 = k → a3 = nm.length → v1 = wp_b b → v2 = Int32.ofNat (2 * (1 + A + k)) → v3 = Int32.ofNat (k + 1) → v4 = Int32.ofNat (2 * (A + k + 1)) → v5 = Int32.ofNat (nm.length + 1) → wv_u (wv_u (wv_u (wv_u (wv_u I4 533 a1 v1) 532 a2 v2) 460 102 v3) 529 a3 v4) 460 100 v5 = wv_u (wv_u (wv_u (wv_u (wv_u I4 533 k (wp_b b)) 532 k (Int32.ofNat (2 * (1 + A + k)))) 460 102 (Int32.ofNat (k + 1))) 529 nm.length (Int32.ofNat (2 * (A + k + 1)))) 460 100 (Int32.ofNat (nm.length + 1)) := by
            rintro a1 a2 a3 v1 v2 v3 v4 v5 rfl rfl rfl rfl rfl rfl rfl rfl
            rfl
          refine hX _ (hY2 _ _ _ _ _ _ _ _ ?_ ?_ ?_ ?_ ?_ ?_ ?_ ?_)
          · rw [j102, enk]
          · rw [wv_u_no _ _ (by omega), j102, enk]
          · rw [wv_u_no _ _ (by omega), wv_u_no _ _ (by omega), wv_u_no _ _ (by omega), j100, en]
          · cases b <;> rfl
          · rw [wv_u_no _ _ (by omega), wv_u_no _ _ (by omega), j101, j102, show Int32.ofInt 1 = Int32.ofNat 1 from rfl, wi_ona, wi_ona, wi_2]
          · rw [wv_u_no _ _ (by omega), wv_u_no _ _ (by omega), j102]
            exact wq_4s _
          · rw [wv_u_no _ _ (by omega), wv_u_no _ _ (by omega), wv_u_no _ _ (by omega), wv_u_at, wv_u_no _ _ (by omega), wv_u_no _ _ (by omega), j101, j102, wq_4s, wi_ona, wi_2]
            rfl
          · rw [wv_u_no _ _ (by omega), wv_u_no _ _ (by omega), wv_u_no _ _ (by omega), wv_u_no _ _ (by omega), j100]
            exact wq_4s _
        · cases hP
