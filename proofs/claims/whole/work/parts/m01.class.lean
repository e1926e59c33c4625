/-! ===== the class: classes of a sequence ===== -/
/-- the classes at E: sets, kinds, groups, finer groups -/
def kc_D (T : wv_T) (R : Nat → Nat → Option Nat) (E : Nat) : Prop := T E = some (.inl 9) ∧ R E 0 = some (E + 1) ∧ R E 1 = some (E + 2) ∧ R E 2 = some (E + 3) ∧ R E 3 = some (E + 4) ∧ T (E + 1) = some (.inr (1, 66)) ∧ T (E + 2) = some (.inr (0, 66)) ∧ T (E + 3) = some (.inr (0, 66)) ∧ T (E + 4) = some (.inr (0, 66)) ∧ E + 4 < 460
/-- its table -/
def kc_B (T : wv_T) (R : Nat → Nat → Option Nat) (E B : Nat) : Prop := R E 4 = some B ∧ T B = some (.inr (0, 4224)) ∧ 535 < B ∧ B < 1099511627776
/-- the sets that were found -/
def kc_s (E : Nat) (ss : List Int64) (I : Nat → Nat → Int32) (L : Nat → Nat → Int64) : Prop := I E 7 = Int32.ofNat ss.length ∧ ss.length ≤ 66 ∧ ∀ j y, ss[j]? = some y → L (E + 1) j = y
def kc_h208 (E : Nat) (x : Int64) (ss : List Int64) (T : wv_T) (N : Nat) (I : Nat → Nat → Int32) (L : Nat → Nat → Int64) (R : Nat → Nat → Option Nat) : Nat → Option (Nat → wv_P) := fun pc =>
  if pc = 2 then some (fun mm lv st T1 N1 I1 L1 R1 nc ns => ∃ j : Nat, lv = [some (.ref E), some (.long x), none, some (.int (Int32.ofNat j)), none, none, none] ∧ st = [] ∧ T1 = T ∧ N1 = N ∧ R1 = R ∧ nc = 0 ∧ ns = 0 ∧ I1 = I ∧ L1 = L ∧ j ≤ ss.length ∧ (∀ i, i < j → ¬ ss[i]? = some x) ∧ mm = ss.length - j)
  else none
def kc_c204 : wv_c1 := fun as T N I L R q => ∃ (E k : Nat), as = [.ref E] ∧ T E = some (.inl 9) ∧ I E 8 = Int32.ofNat k ∧ k ≤ 66 ∧ (k = 0 → q (.inl (some (.int 0))) T N I L R 0 0) ∧ (0 < k → q (.inl (some (.int 1))) T N I L R 0 0)
set_option maxRecDepth 100000 in
theorem wM_204 : ∃ cb ci np, pt_mt 204 = some (10, cb, 1, false, some .boolean, ci, np) := ⟨_, _, _, rfl⟩
set_option maxRecDepth 100000 in
set_option maxHeartbeats 4000000 in
theorem kc_isBuilt {sc : pt_Sc} {d : Nat} : wv_C wm_fx sc (d + 1) 204 kc_c204 := by
  rintro as T N I L R q ⟨E, k, rfl, hE, h8, hk, h0, h1⟩ w0 HR
  obtain ⟨cb, ci, np, hm⟩ := wM_204
  refine wv_meth (hh := none) rfl (sp := fun _ _ _ _ _ _ _ _ => False) (hd := fun _ => none) (n := 0) (n1 := 300) hm zc_204 rfl (fun k as T N I L R q h => by cases h) ?_ (fun pc P h => by cases h) HR
  have ek := wi_on (n := k) (by omega)
  refine ⟨hE, fun w => ?_, fun w => ?_⟩
  · have w : I E 8 ≤ 0 := w
    rw [h8, wi_le, ek, wi_0] at w
    exact ⟨⟨rfl, rfl⟩, h0 (by omega)⟩
  · have w : ¬ I E 8 ≤ 0 := w
    rw [h8, wi_le, ek, wi_0] at w
    exact ⟨⟨rfl, rfl⟩, h1 (by omega)⟩
def kc_c214 : wv_c1 := fun as T N I L R q => ∃ E : Nat, as = [.ref E] ∧ T E = some (.inl 9) ∧ q (.inl (some (.int (I E 8)))) T N I L R 0 0
set_option maxRecDepth 100000 in
theorem wM_214 : ∃ cb ci np, pt_mt 214 = some (10, cb, 1, false, some .int, ci, np) := ⟨_, _, _, rfl⟩
set_option maxRecDepth 100000 in
set_option maxHeartbeats 4000000 in
theorem kc_count {sc : pt_Sc} {d : Nat} : wv_C wm_fx sc (d + 1) 214 kc_c214 := by
  rintro as T N I L R q ⟨E, rfl, hE, h⟩ w0 HR
  obtain ⟨cb, ci, np, hm⟩ := wM_214
  refine wv_meth (hh := none) rfl (sp := fun _ _ _ _ _ _ _ _ => False) (hd := fun _ => none) (n := 0) (n1 := 300) hm zc_214 rfl (fun k as T N I L R q h => by cases h) ?_ (fun pc P h => by cases h) HR
  exact ⟨hE, h⟩
def kc_c223 : wv_c1 := fun as T N I L R q => ∃ E c : Nat, as = [.ref E, .int (Int32.ofNat c)] ∧ kc_D T R E ∧ c < 66 ∧ q (.inl (some (.int (I (E + 2) c)))) T N I L R 0 0
set_option maxRecDepth 100000 in
theorem wM_223 : ∃ cb ci np, pt_mt 223 = some (10, cb, 2, false, some .int, ci, np) := ⟨_, _, _, rfl⟩
set_option maxRecDepth 100000 in
set_option maxHeartbeats 4000000 in
theorem kc_kindOf {sc : pt_Sc} {d : Nat} : wv_C wm_fx sc (d + 1) 223 kc_c223 := by
  rintro as T N I L R q ⟨E, c, rfl, ⟨hE, r0, r1, r2, r3, t1, t2, t3, t4, hb⟩, hc, h⟩ w0 HR
  obtain ⟨cb, ci, np, hm⟩ := wM_223
  refine wv_meth (hh := none) rfl (sp := fun _ _ _ _ _ _ _ _ => False) (hd := fun _ => none) (n := 0) (n1 := 300) hm zc_223 rfl (fun k as T N I L R q h => by cases h) ?_ (fun pc P h => by cases h) HR
  refine ⟨hE, _, r1, _, t2, pp_b (c := 66) hc (by omega), ?_⟩
  rw [wi_onn (by omega)]
  exact h
def kc_c218 : wv_c1 := fun as T N I L R q => ∃ E B c v g : Nat, as = [.ref E, .int (Int32.ofNat c), .int (Int32.ofNat v)] ∧ kc_D T R E ∧ kc_B T R E B ∧ I E 5 = Int32.ofNat g ∧ g < 64 ∧ v < 64 ∧ c < 66 ∧ q (.inl (some (.int (I B (c * 64 + (v &&& g)))))) T N I L R 0 0
set_option maxRecDepth 100000 in
theorem wM_218 : ∃ cb ci np, pt_mt 218 = some (10, cb, 3, false, some .int, ci, np) := ⟨_, _, _, rfl⟩
set_option maxRecDepth 100000 in
set_option maxHeartbeats 4000000 in
theorem kc_behind {sc : pt_Sc} {d : Nat} : wv_C wm_fx sc (d + 1) 218 kc_c218 := by
  rintro as T N I L R q ⟨E, B, c, v, g, rfl, ⟨hE, r0, r1, r2, r3, t1, t2, t3, t4, hb⟩, ⟨b1, b2, b3, b4⟩, h5, hg, hv, hc, h⟩ w0 HR
  obtain ⟨cb, ci, np, hm⟩ := wM_218
  refine wv_meth (hh := none) rfl (sp := fun _ _ _ _ _ _ _ _ => False) (hd := fun _ => none) (n := 0) (n1 := 300) hm zc_218 rfl (fun k as T N I L R q h => by cases h) ?_ (fun pc P h => by cases h) HR
  have ea : (Int32.ofNat v &&& I E 5) = Int32.ofNat (v &&& g) := by
    rw [h5]
    exact sb_and ⟨g, hg⟩ ⟨v, hv⟩
  have hl : v &&& g < 64 := Nat.lt_of_le_of_lt Nat.and_le_left hv
  have e := wi_64 c (v &&& g)
  refine ⟨hE, _, b1, hE, _, b2, by rw [ea, e]; exact pp_b (c := 4224) (by omega) (by omega), ?_⟩
  rw [ea, e, wi_onn (by omega)]
  exact h
def kc_c208 : wv_c1 := fun as T N I L R q => ∃ (E : Nat) (x : Int64) (ss : List Int64), as = [.ref E, .long x] ∧ kc_D T R E ∧ kc_s E ss I L ∧ (¬ x ∈ ss → ss.length < 66) ∧ (∀ j, ss[j]? = some x → (∀ i, i < j → ¬ ss[i]? = some x) → q (.inl (some (.int (Int32.ofNat j)))) T N I L R 0 0) ∧ (¬ x ∈ ss → q (.inl (some (.int (Int32.ofNat ss.length)))) T N (wv_u I E 7 (Int32.ofNat (ss.length + 1))) (wv_u L (E + 1) ss.length x) R 0 0)
set_option maxRecDepth 100000 in
theorem wM_208 : ∃ cb ci np, pt_mt 208 = some (10, cb, 4, false, some .int, ci, np) := ⟨_, _, _, rfl⟩
set_option maxRecDepth 100000 in
set_option maxHeartbeats 4000000 in
theorem kc_findSet {sc : pt_Sc} {d : Nat} : wv_C wm_fx sc (d + 1) 208 kc_c208 := by
  rintro as T N I L R q ⟨E, x, ss, rfl, ⟨hE, r0, r1, r2, r3, t1, t2, t3, t4, hb⟩, ⟨s1, s2, s3⟩, hx, h1, h2⟩ w0 HR
  obtain ⟨cb, ci, np, hm⟩ := wM_208
  refine wv_meth (hh := none) rfl (sp := fun _ _ _ _ _ _ _ _ => False) (hd := kc_h208 E x ss T N I L R) (n := 300) (n1 := 300) hm zc_208 rfl (fun k as T N I L R q h => by cases h) ?_ ?_ HR
  · exact ⟨_, 0, rfl, rfl, rfl, rfl, rfl, rfl, rfl, rfl, rfl, Nat.zero_le _, fun i hi => by omega, rfl⟩
  · intro pc P hP m lv st T1 N1 I1 L1 R1 nc ns hh
    unfold kc_h208 at hP
    by_cases p2 : pc = 2
    · rw [if_pos p2] at hP
      cases hP
      subst p2
      obtain ⟨j, rfl, rfl, rfl, rfl, rfl, rfl, rfl, rfl, rfl, hj, hn, rfl⟩ := hh
      have ej := wi_on (n := j) (by omega)
      have ejn := wi_onn (n := j) (by omega)
      have el := wi_on (n := ss.length) (by omega)
      have eln := wi_onn (n := ss.length) (by omega)
      refine ⟨hE, fun w => ?_, fun w => ?_⟩
      · have w : I1 E 7 ≤ Int32.ofNat j := w
        rw [s1, wi_le, el, ej] at w
        have e : j = ss.length := by omega
        subst e
        have hno : ¬ x ∈ ss := fun z => by
          obtain ⟨i, hi⟩ := List.mem_iff_getElem?.mp z
          exact hn i (List.getElem?_eq_some_iff.mp hi).1 hi
        have hlt := hx hno
        have e66 : ((Int8.ofInt 66).toInt32).toInt = 66 := rfl
        refine ⟨hE, fun w2 => ?_, fun w2 => ?_⟩
        · have w2 : (Int8.ofInt 66).toInt32 ≤ I1 E 7 := w2
          rw [s1, wi_le, el, e66] at w2
          omega
        · refine ⟨hE, _, r0, hE, _, t1, by rw [s1]; exact pp_b (c := 66) hlt (by omega), (show E + 1 < 1099511627776 by omega), ?_⟩
          rw [s1, eln]
          refine ⟨hE, ⟨hE, (show E < 1099511627776 by omega)⟩, hE, ?_⟩
          have hq := h2 hno
          have e1 : I1 E 7 + Int32.ofInt 1 = Int32.ofNat (ss.length + 1) := by rw [s1, wq_4s]
          show q (.inl (some (.int (wv_u I1 E 7 (I1 E 7 + Int32.ofInt 1) E 7 - Int32.ofInt 1)))) _ _ (wv_u I1 E 7 (I1 E 7 + Int32.ofInt 1)) (wv_u L1 (E + 1) ss.length x) _ 0 0
          rw [e1, wv_u_at]
          have e2 : Int32.ofNat (ss.length + 1) - Int32.ofInt 1 = Int32.ofNat ss.length := by
            rw [← wq_4s]
            exact Int32.add_sub_cancel _ _
          rw [e2]
          exact hq
      · have w : ¬ I1 E 7 ≤ Int32.ofNat j := w
        rw [s1, wi_le, el, ej] at w
        have hlt : j < ss.length := by omega
        refine ⟨hE, _, r0, _, t1, pp_b (c := 66) (by omega) (by omega), ?_⟩
        rw [ejn]
        have ey : ss[j]? = some ss[j] := List.getElem?_eq_getElem hlt
        rw [s3 j _ ey]
        refine ⟨fun w2 => ?_, fun w2 => ?_⟩
        · have w2 : ¬ ss[j] = x := fun z => w2 (lg_cmp_0.mpr z)
          refine ⟨ss.length - (j + 1), by omega, j + 1, by rw [← wq_4s j]; rfl, rfl, rfl, rfl, rfl, rfl, rfl, rfl, rfl, by omega, fun i hi => ?_, rfl⟩
          by_cases c : i = j
          · subst c
            rw [ey]
            exact fun z => w2 (Option.some.inj z)
          · exact hn i (by omega)
        · have w2 : ss[j] = x := lg_cmp_0.mp (Decidable.not_not.mp w2)
          exact h1 j (by rw [ey, w2]) hn
    rw [if_neg p2] at hP
    cases hP
