/-! ===== the reference: how many flip-flops there are ===== -/
/-- flip-flops of a part, by its classes -/
def ff_1 (P : pd_P) (ka : Nat → Nat × (Nat → Nat)) (i : Nat) : Nat := if pd_k P i = 1 then kk_n (ka i).2 2 2 (ka i).1 else if pd_k P i = 2 ∨ pd_k P i = 3 ∨ pd_k P i = 6 then kk_n (ka i).2 2 3 (ka i).1 else if pd_k P i = 5 ∨ pd_k P i = 8 ∨ pd_k P i = 9 then 1 else if pd_k P i = 7 then pd_t P i else 0
def ff_n (P : pd_P) (ka : Nat → Nat × (Nat → Nat)) : Nat → Nat
  | 0 => 0
  | i + 1 => ff_n P ka i + ff_1 P ka i
def fp_k (p : Nat) (S : rn_N) (P : pd_P) (U : Nat → np_A) (pn : Nat → Nat) (ka : Nat → Nat × (Nat → Nat)) (I : Nat → Nat → Int32) : Prop := ∀ i, i < pd_m P → fs_b (pd_k P i) → ∃ mv, rk_c (U (nq_l (rn_d S (pn i)))) (ka i).1 mv (ka i).2 ∧ rk_T (4 * p + fs P i) (ka i).1 mv (ka i).2 I
noncomputable def fp_ch (R : Nat → Nat × (Nat → Nat) → Prop) (i : Nat) : Nat × (Nat → Nat) := @dite _ (∃ z, R i z) (Classical.propDecidable _) (fun h => h.choose) (fun _ => (0, fun _ => 0))
theorem fp_k_of {p : Nat} {S : rn_N} {P : pd_P} {U : Nat → np_A} {pn : Nat → Nat} {I : Nat → Nat → Int32} (h : fp_o p S P U pn (pd_m P) I) : ∃ ka, fp_k p S P U pn ka I := by
  refine ⟨fp_ch (fun i z => ∃ mv, rk_c (U (nq_l (rn_d S (pn i)))) z.1 mv z.2 ∧ rk_T (4 * p + fs P i) z.1 mv z.2 I), fun i hi hb => ?_⟩
  obtain ⟨K, mv, kd, k1, k2⟩ := h i hi hb
  have hx : ∃ z : Nat × (Nat → Nat), ∃ mv, rk_c (U (nq_l (rn_d S (pn i)))) z.1 mv z.2 ∧ rk_T (4 * p + fs P i) z.1 mv z.2 I := ⟨(K, kd), mv, k1, k2⟩
  unfold fp_ch
  rw [dif_pos hx]
  exact hx.choose_spec
/-- the parts in memory -/
def ff_Z (p : Nat) (S : rn_N) (m0 x : Nat) (P : pd_P) (Q : Nat → Prop) (pa : Nat → Nat) (U : Nat → np_A) (pn : Nat → Nat) (ka : Nat → Nat × (Nat → Nat)) (T : wv_T) (I : Nat → Nat → Int32) : Prop := pb_X T I S m0 ∧ (I 460 37 = Int32.ofNat (rn_n S) ∧ I 460 32 = Int32.ofNat (mr_wd S)) ∧ I 460 38 = Int32.ofNat x ∧ (∀ i, i < pd_m P → Q (pn i) ∧ pa (pn i) = i) ∧ (∀ i, i < pd_m P → I 523 i = Int32.ofNat (pn i) ∧ I 524 i = Int32.ofNat (4 * p + fs P i)) ∧ I 460 94 = Int32.ofNat (pd_m P) ∧ fp_k p S P U pn ka I
def ff_G (p : Nat) (I I1 : Nat → Nat → Int32) : Prop := ∀ c j, ¬ (469 ≤ c ∧ c ≤ 475) → ¬ (508 ≤ c ∧ c ≤ 511) → ¬ c = 514 → ¬ (516 ≤ c ∧ c ≤ 519) → ¬ (523 ≤ c ∧ c ≤ 525) → ¬ (c = 460 ∧ (j = 0 ∨ j = 32 ∨ (37 ≤ j ∧ j ≤ 39) ∨ j = 75 ∨ j = 88 ∨ j = 94)) → ¬ (c = 520 ∧ 4 * p ≤ j ∧ j < 4 * p + 4) → ¬ (c = 521 ∧ 320 * (4 * p) ≤ j ∧ j < 320 * (4 * p + 4)) → ¬ (c = 522 ∧ 64 * (320 * (4 * p)) ≤ j ∧ j < 64 * (320 * (4 * p + 4))) → I1 c j = I c j
def ff_c440 : wv_c1 := fun as T N I L R q => ∃ (S : rn_N) (m0 p x i : Nat) (P : pd_P) (Q : Nat → Prop) (pa pb : Nat → Nat) (U : Nat → np_A) (pn : Nat → Nat) (ka : Nat → Nat × (Nat → Nat)), as = [.ref 460, .int (Int32.ofNat i)] ∧ p < 2 ∧ i < pd_m P ∧ fp_D S P Q pa pb x ∧ ff_Z p S m0 x P Q pa U pn ka T I ∧ q (.inl (some (.int (Int32.ofNat (ff_1 P ka i))))) T N I L R 0 0
set_option maxRecDepth 100000 in
theorem wM_440 : ∃ cb ci np, pt_mt 440 = some (32, cb, 3, false, some .int, ci, np) := ⟨_, _, _, rfl⟩
set_option maxRecDepth 100000 in
set_option maxHeartbeats 4000000 in
theorem ff_mflopsOf {sc : pt_Sc} {d : Nat} : wv_C wm_fx sc (d + 1 + 1) 440 ff_c440 := by
  rintro as T N I L R q ⟨S, m0, p, x, i, P, Q, pa, pb, U, pn, ka, rfl, hp, hi, ⟨d1, d2, d3, d4, d5, d6, d7⟩, ⟨⟨hT, hn5, hm0, hM⟩, z2, z3, z4, z5, z6, z7⟩, h⟩ w0 HR
  obtain ⟨cb, ci, np, hm⟩ := wM_440
  have hc441 : wv_C wm_fx sc (d + 1) 441 kk_c441 := wv_C_deep (by omega) (kk_kindsFrom (d := d))
  refine wv_meth (hh := none) rfl (sp := wv_sp [(441, kk_c441)]) (hd := fun _ => none) (n := 0) (n1 := 300) hm zc_440 rfl (wv_sp_ok (fun q hq => by rw [List.mem_singleton.mp hq]; exact hc441)) ?_ (fun pc P h => by cases h) HR
  obtain ⟨hQ, hpa⟩ := z4 i hi
  obtain ⟨y1, y2⟩ := z5 i hi
  obtain ⟨hnn, hfl⟩ := d2 _ hQ
  have hk100 : rn_k S (pn i) < 100 := by unfold fl_prop at hfl; omega
  have ek := wi_on (n := rn_k S (pn i)) (by omega)
  have ein := wi_onn (n := i) (by omega)
  have enn := wi_onn (n := pn i) (by omega)
  have e469 : I 469 (pn i) = Int32.ofNat (rn_k S (pn i)) := (hM _ hnn).1
  have tq := (d1 _ hQ).1
  rw [hpa] at tq
  have hk : nq_k (rn_d S (pn i)) = rn_k S (pn i) := rfl
  have kinds : (rn_k S (pn i) = 60 → pd_k P i = 0) ∧ (rn_k S (pn i) = 61 → pd_k P i = 1) ∧ (rn_k S (pn i) = 32 → pd_k P i = 2) ∧ (rn_k S (pn i) = 33 → pd_k P i = 3) ∧ (rn_k S (pn i) = 31 → pd_k P i = 4) ∧ (rn_k S (pn i) = 10 → pd_k P i = 5) ∧ (rn_k S (pn i) = 11 → pd_k P i = 6) ∧ (rn_k S (pn i) = 12 → pd_k P i = 7 ∧ pd_t P i = nq_a (rn_d S (pn i))) ∧ (rn_k S (pn i) = 13 → pd_k P i = 8) ∧ (rn_k S (pn i) = 14 → pd_k P i = 9) ∧ (rn_k S (pn i) = 15 → pd_k P i = 10) := by
    rcases tq with ⟨h1, h2, h3⟩ | ⟨h1, h2, h3⟩ | ⟨h1, h2, h3⟩ | ⟨h1, h2, h3⟩ | ⟨h1, h2, h3⟩ | ⟨h1, h2, h3⟩ | ⟨h1, h2, h3⟩ | ⟨h1, h2, h3, h4⟩ | ⟨h1, h2, h3⟩ | ⟨h1, h2, h3⟩ | ⟨h1, h2, h3⟩
    all_goals first
      | exact ⟨fun z => by omega, fun z => by omega, fun z => by omega, fun z => by omega, fun z => by omega, fun z => by omega, fun z => by omega, fun z => ⟨by omega, by omega⟩, fun z => by omega, fun z => by omega, fun z => by omega⟩
  obtain ⟨k60, k61, k32, k33, k31, k10, k11, k12, k13, k14, k15⟩ := kinds
  have cls : fs_b (pd_k P i) → ∀ a b : Nat, a ≤ 3 → b ≤ 3 → ff_1 P ka i = kk_n (ka i).2 a b (ka i).1 → kk_c441 [.ref 460, .int (I 524 i), .int (Int32.ofNat a), .int (Int32.ofNat b)] T N I L R q := fun hb a b ha3 hb3 e => by
    obtain ⟨mv, c1, c2⟩ := z7 i hi hb
    have hf := fs_lt (P := P) (show i + 1 ≤ pd_m P by omega)
    rw [fs_y hb] at hf
    rw [e] at h
    exact ⟨4 * p + fs P i, (ka i).1, a, b, mv, (ka i).2, by rw [y2], hT, by omega, c2, ha3, hb3, h⟩
  refine ⟨_, wm_t hT rfl, pp_b (c := 420) (by omega) (by omega), ?_⟩
  rw [ein, y1]
  refine ⟨_, wm_t hT rfl, pp_b (c := 800) (by omega) (by omega), ?_⟩
  rw [enn, e469]
  refine ⟨fun w => ?_, fun n10 => ⟨fun w => ?_, fun n11 => ⟨fun w => ?_, fun n12 => ⟨fun w => ?_, fun n13 => ⟨fun w => ?_, fun n14 => ⟨fun w => ?_, fun n32 => ⟨fun w => ?_, fun n33 => ⟨fun w => ?_, fun n61 => ?_⟩⟩⟩⟩⟩⟩⟩⟩
  · rw [ek] at w
    have e := k10 (by omega)
    have ef : ff_1 P ka i = 1 := by
      unfold ff_1
      rw [e]
      rfl
    rw [ef] at h
    exact h
  · rw [ek] at w
    have e := k11 (by omega)
    refine ⟨_, wm_t hT rfl, pp_b (c := 420) (by omega) (by omega), ?_⟩
    rw [ein]
    refine cls (by unfold fs_b; omega) 2 3 (by omega) (by omega) ?_
    unfold ff_1
    rw [e]
    rfl
  · rw [ek] at w
    obtain ⟨e, et⟩ := k12 (by omega)
    have e472 : I 472 (pn i) = Int32.ofNat (nq_a (rn_d S (pn i))) := ((hM _ hnn).2.2.2 (by omega)).2.2.1 (Or.inr (by omega))
    have ef : ff_1 P ka i = pd_t P i := by
      unfold ff_1
      rw [e]
      rfl
    rw [ef, et] at h
    refine ⟨_, wm_t hT rfl, pp_b (c := 800) (by omega) (by omega), ?_⟩
    rw [enn, e472]
    exact h
  · rw [ek] at w
    have e := k13 (by omega)
    have ef : ff_1 P ka i = 1 := by
      unfold ff_1
      rw [e]
      rfl
    rw [ef] at h
    exact h
  · rw [ek] at w
    have e := k14 (by omega)
    have ef : ff_1 P ka i = 1 := by
      unfold ff_1
      rw [e]
      rfl
    rw [ef] at h
    exact h
  · rw [ek] at w
    have e := k32 (by omega)
    refine ⟨_, wm_t hT rfl, pp_b (c := 420) (by omega) (by omega), ?_⟩
    rw [ein]
    refine cls (by unfold fs_b; omega) 2 3 (by omega) (by omega) ?_
    unfold ff_1
    rw [e]
    rfl
  · rw [ek] at w
    have e := k33 (by omega)
    refine ⟨_, wm_t hT rfl, pp_b (c := 420) (by omega) (by omega), ?_⟩
    rw [ein]
    refine cls (by unfold fs_b; omega) 2 3 (by omega) (by omega) ?_
    unfold ff_1
    rw [e]
    rfl
  · rw [ek] at w
    have e := k61 (by omega)
    refine ⟨_, wm_t hT rfl, pp_b (c := 420) (by omega) (by omega), ?_⟩
    rw [ein]
    refine cls (by unfold fs_b; omega) 2 2 (by omega) (by omega) ?_
    unfold ff_1
    rw [e]
    rfl
  · rw [ek] at n10 n11 n12 n13 n14 n32 n33 n61
    have e : pd_k P i = 0 ∨ pd_k P i = 4 ∨ pd_k P i = 10 := by
      unfold fl_prop at hfl
      rcases (by omega : rn_k S (pn i) = 60 ∨ rn_k S (pn i) = 31 ∨ rn_k S (pn i) = 15) with z | z | z
      · exact Or.inl (k60 z)
      · exact Or.inr (Or.inl (k31 z))
      · exact Or.inr (Or.inr (k15 z))
    have ef : ff_1 P ka i = 0 := by
      unfold ff_1
      rcases e with e | e | e <;> rw [e] <;> rfl
    rw [ef] at h
    exact h
