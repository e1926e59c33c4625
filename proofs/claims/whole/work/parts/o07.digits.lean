/-! ===== the class: a number's signs ===== -/
/-- a number's signs, without the gap -/
def tw_d (x : Nat) : List Nat := (if 99 < x then [48 + x / 100] else []) ++ ((if 9 < x then [48 + x / 10 % 10] else []) ++ [48 + x % 10])
theorem tw_nd (x : Nat) : tw_n x = [32] ++ tw_d x := rfl
def tw_dl (x : Nat) : Nat := if 99 < x then 3 else if 9 < x then 2 else 1
theorem tw_d_l (x : Nat) : (tw_d x).length = tw_dl x := by
  unfold tw_d tw_dl
  by_cases h : 99 < x
  · rw [if_pos h, if_pos (show 9 < x by omega), if_pos h]
    rfl
  · rw [if_neg h, if_neg h]
    by_cases h2 : 9 < x
    · rw [if_pos h2, if_pos h2]
      rfl
    · rw [if_neg h2, if_neg h2]
      rfl
theorem bu_q : ∀ x, x < 1000 → -(Int32.ofNat x) / (Int8.ofInt 100).toInt32 = -(Int32.ofNat (x / 100)) := by decide +kernel
theorem bu_r : ∀ x, x < 1000 → -(Int32.ofNat (x / 100)) * (Int8.ofInt 100).toInt32 - -(Int32.ofNat x) = Int32.ofNat (x % 100) := by decide +kernel
theorem bu_n (x : Nat) : -(-(Int32.ofNat x)) = Int32.ofNat x := Int32.neg_neg
theorem bu_100 : ∀ x, x < 1000 → ((Int8.ofInt (-100)).toInt32 < -(Int32.ofNat x) ↔ x < 100) := by decide +kernel
theorem bu_9 : ∀ x, x < 1000 → ((Int8.ofInt (-9)).toInt32 ≤ -(Int32.ofNat x) ↔ x ≤ 9) := by decide +kernel
theorem bu_by : ∀ m, m < 128 → vp_nar .byte (Int32.ofNat m) = Int32.ofNat m := by decide +kernel
def bu_p (i : Nat) : Int32 := if i = 1 then (Int8.ofInt (-10)).toInt32 else if i = 2 then (Int8.ofInt 10).toInt32 * (Int8.ofInt (-10)).toInt32 else (Int8.ofInt 10).toInt32 * ((Int8.ofInt 10).toInt32 * (Int8.ofInt (-10)).toInt32)
theorem bu_p1 : ∀ x, x < 1000 → (-(Int32.ofNat x) ≤ bu_p 1 ↔ 9 < x) ∧ (-(Int32.ofNat x) ≤ bu_p 2 ↔ 99 < x) ∧ ¬ (-(Int32.ofNat x) ≤ bu_p 3) := by decide +kernel
def bu_l72 (x i : Nat) : List (Option Value) := [some (.int (-(Int32.ofNat x))), some (.int (Int32.ofInt 0)), some (.int (bu_p i)), some (.int (Int32.ofNat i)), none]
def bu_h272 (x : Nat) (T : wv_T) (N : Nat) (I : Nat → Nat → Int32) (L : Nat → Nat → Int64) (R : Nat → Nat → Option Nat) : Nat → Option (Nat → wv_P) := fun pc =>
  if pc = 16 then some (fun mm lv st T1 N1 I1 L1 R1 nc ns => ∃ i : Nat, lv = bu_l72 x i ∧ st = [] ∧ T1 = T ∧ N1 = N ∧ R1 = R ∧ nc = 0 ∧ ns = 0 ∧ I1 = I ∧ L1 = L ∧ (i = 1 ∨ (i = 2 ∧ 9 < x) ∨ (i = 3 ∧ 99 < x)) ∧ mm = 5 - i)
  else none
def bu_c272 : wv_c1 := fun as T N I L R q => ∃ x : Nat, as = [.int (Int32.ofNat x)] ∧ x < 1000 ∧ q (.inl (some (.int (Int32.ofNat (tw_dl x))))) T N I L R 0 0
set_option maxRecDepth 100000 in
theorem wM_272 : ∃ cb ci np, pt_mt 272 = some (26, cb, 4, false, some .int, ci, np) := ⟨_, _, _, rfl⟩
set_option maxRecDepth 100000 in
set_option maxHeartbeats 4000000 in
theorem bu_stringSize {sc : pt_Sc} {d : Nat} : wv_C wm_fx sc (d + 1) 272 bu_c272 := by
  rintro as T N I L R q ⟨x, rfl, hx, h⟩ w0 HR
  obtain ⟨cb, ci, np, hm⟩ := wM_272
  refine wv_meth (hh := none) rfl (sp := fun _ _ _ _ _ _ _ _ => False) (hd := bu_h272 x T N I L R) (n := 300) (n1 := 300) hm zc_272 rfl (fun k as T N I L R q h => by cases h) ?_ ?_ HR
  · refine ⟨fun w1 => ?_, fun w1 => ?_⟩
    · have w1 : Int32.ofNat x < 0 := w1
      rw [wi_lt, wi_on (by omega), wi_0] at w1
      omega
    exact ⟨4, 1, rfl, rfl, rfl, rfl, rfl, rfl, rfl, rfl, rfl, Or.inl rfl, rfl⟩
  · intro pc P hP m lv st T1 N1 I1 L1 R1 nc ns hh
    unfold bu_h272 at hP
    by_cases p16 : pc = 16
    · rw [if_pos p16] at hP
      cases hP
      subst p16
      obtain ⟨i, rfl, rfl, rfl, rfl, rfl, rfl, rfl, rfl, rfl, hi, rfl⟩ := hh
      obtain ⟨c1, c2, c3⟩ := bu_p1 x hx
      refine ⟨fun w1 => ?_, fun _ => ?_⟩
      · have w1 : (Int8.ofInt 10).toInt32 ≤ Int32.ofNat i := w1
        rw [show (Int8.ofInt 10).toInt32 = Int32.ofNat 10 from rfl, wi_le, wi_on (by omega), wi_on (by omega)] at w1
        omega
      rcases hi with rfl | ⟨rfl, hi⟩ | ⟨rfl, hi⟩
      · refine ⟨fun w2 => ?_, fun w2 => ?_⟩
        · exact ⟨3, by omega, 2, rfl, rfl, rfl, rfl, rfl, rfl, rfl, rfl, rfl, Or.inr (Or.inl ⟨rfl, c1.mp w2⟩), rfl⟩
        · have h9 : ¬ 9 < x := fun y => w2 (c1.mpr y)
          rw [show tw_dl x = 1 by unfold tw_dl; rw [if_neg (by omega), if_neg h9]] at h
          exact h
      · refine ⟨fun w2 => ?_, fun w2 => ?_⟩
        · exact ⟨2, by omega, 3, rfl, rfl, rfl, rfl, rfl, rfl, rfl, rfl, rfl, Or.inr (Or.inr ⟨rfl, c2.mp w2⟩), rfl⟩
        · have h9 : ¬ 99 < x := fun y => w2 (c2.mpr y)
          rw [show tw_dl x = 2 by unfold tw_dl; rw [if_neg h9, if_pos hi]] at h
          exact h
      · refine ⟨fun w2 => (c3 w2).elim, fun w2 => ?_⟩
        rw [show tw_dl x = 3 by unfold tw_dl; rw [if_pos hi]] at h
        exact h
    rw [if_neg p16] at hP
    cases hP
/-- the digits' tables -/
def bu_T (T : wv_T) (I : Nat → Nat → Int32) : Prop := T 1099511627781 = some (.inr (3, 100)) ∧ T 1099511627782 = some (.inr (3, 100)) ∧ ∀ r, r < 100 → I 1099511627781 r = Int32.ofNat (48 + r % 10) ∧ I 1099511627782 r = Int32.ofNat (48 + r / 10)
/-- the signs of x end before e -/
def bu_gc (x e V : Nat) (I : Nat → Nat → Int32) : Nat → Nat → Int32 := fun c j => if c = V ∧ e - tw_dl x ≤ j ∧ j < e then Int32.ofNat ((tw_d x).getD (j - (e - tw_dl x)) 0) else I c j
theorem bu_gc1 {x e V : Nat} {I : Nat → Nat → Int32} (hx : x ≤ 9) (he : 1 ≤ e) : wv_u I V (e - 1) (Int32.ofNat (48 + x % 10)) = bu_gc x e V I := by
  funext c j
  have e1 : tw_dl x = 1 := by
    unfold tw_dl
    rw [if_neg (by omega), if_neg (by omega)]
  have e2 : tw_d x = [48 + x % 10] := by
    unfold tw_d
    rw [if_neg (by omega), if_neg (by omega)]
    rfl
  unfold bu_gc
  rw [e1, e2]
  by_cases h : c = V ∧ j = e - 1
  · obtain ⟨rfl, rfl⟩ := h
    rw [wv_u_at, if_pos ⟨rfl, by omega, by omega⟩, Nat.sub_self]
    rfl
  · rw [wv_u_no _ _ h, if_neg (by omega)]
theorem bu_gc2 {x e V : Nat} {I : Nat → Nat → Int32} (h9 : 9 < x) (hx : x ≤ 99) (he : 2 ≤ e) : wv_u (wv_u I V (e - 1) (Int32.ofNat (48 + x % 10))) V (e - 2) (Int32.ofNat (48 + x / 10)) = bu_gc x e V I := by
  funext c j
  have e1 : tw_dl x = 2 := by
    unfold tw_dl
    rw [if_neg (by omega), if_pos (by omega)]
  have e2 : tw_d x = [48 + x / 10, 48 + x % 10] := by
    unfold tw_d
    rw [if_neg (by omega), if_pos (by omega), show x / 10 % 10 = x / 10 by omega]
    rfl
  unfold bu_gc
  rw [e1, e2]
  by_cases h : c = V ∧ j = e - 2
  · obtain ⟨rfl, rfl⟩ := h
    rw [wv_u_at, if_pos ⟨rfl, by omega, by omega⟩, Nat.sub_self]
    rfl
  rw [wv_u_no _ _ h]
  by_cases h2 : c = V ∧ j = e - 1
  · obtain ⟨rfl, rfl⟩ := h2
    rw [wv_u_at, if_pos ⟨rfl, by omega, by omega⟩, show e - 1 - (e - 2) = 1 by omega]
    rfl
  · rw [wv_u_no _ _ h2, if_neg (by omega)]
theorem bu_gc3 {x e V : Nat} {I : Nat → Nat → Int32} (h9 : 99 < x) (he : 3 ≤ e) : wv_u (wv_u (wv_u I V (e - 1) (Int32.ofNat (48 + x % 10))) V (e - 2) (Int32.ofNat (48 + x / 10 % 10))) V (e - 3) (Int32.ofNat (48 + x / 100)) = bu_gc x e V I := by
  funext c j
  have e1 : tw_dl x = 3 := by
    unfold tw_dl
    rw [if_pos (by omega)]
  have e2 : tw_d x = [48 + x / 100, 48 + x / 10 % 10, 48 + x % 10] := by
    unfold tw_d
    rw [if_pos (by omega), if_pos (by omega)]
    rfl
  unfold bu_gc
  rw [e1, e2]
  by_cases h : c = V ∧ j = e - 3
  · obtain ⟨rfl, rfl⟩ := h
    rw [wv_u_at, if_pos ⟨rfl, by omega, by omega⟩, Nat.sub_self]
    rfl
  rw [wv_u_no _ _ h]
  by_cases h2 : c = V ∧ j = e - 2
  · obtain ⟨rfl, rfl⟩ := h2
    rw [wv_u_at, if_pos ⟨rfl, by omega, by omega⟩, show e - 2 - (e - 3) = 1 by omega]
    rfl
  rw [wv_u_no _ _ h2]
  by_cases h3 : c = V ∧ j = e - 1
  · obtain ⟨rfl, rfl⟩ := h3
    rw [wv_u_at, if_pos ⟨rfl, by omega, by omega⟩, show e - 1 - (e - 3) = 2 by omega]
    rfl
  · rw [wv_u_no _ _ h3, if_neg (by omega)]
def bu_l73 (x e V : Nat) (l3 l4 : Option Value) (ps : Nat) : List (Option Value) := [some (.int (-(Int32.ofNat x))), some (.int (Int32.ofNat e)), some (.ref V), l3, l4, some (.int (Int32.ofNat ps)), some (.int (Int32.ofInt 0)), none, none, none]
def bu_w (x e V : Nat) (I : Nat → Nat → Int32) : Nat → Nat → Int32 := wv_u (wv_u I V (e - 1) (Int32.ofNat (48 + x % 10))) V (e - 2) (Int32.ofNat (48 + x / 10 % 10))
def bu_h273 (x e V : Nat) (T : wv_T) (N : Nat) (I : Nat → Nat → Int32) (L : Nat → Nat → Int64) (R : Nat → Nat → Option Nat) : Nat → Option (Nat → wv_P) := fun pc =>
  if pc = 22 then some (fun mm lv st T1 N1 I1 L1 R1 nc ns => (lv = bu_l73 x e V none none e ∧ st = [] ∧ T1 = T ∧ N1 = N ∧ R1 = R ∧ nc = 0 ∧ ns = 0 ∧ I1 = I ∧ L1 = L ∧ mm = 9) ∨ (∃ a b, lv = bu_l73 (x / 100) e V (some (.int a)) (some (.int b)) (e - 2) ∧ st = [] ∧ T1 = T ∧ N1 = N ∧ R1 = R ∧ nc = 0 ∧ ns = 0 ∧ 99 < x ∧ I1 = bu_w x e V I ∧ L1 = L ∧ mm = 8))
  else if pc = 72 then some (fun mm lv st T1 N1 I1 L1 R1 nc ns => (lv = bu_l73 x e V none none e ∧ st = [] ∧ T1 = T ∧ N1 = N ∧ R1 = R ∧ nc = 0 ∧ ns = 0 ∧ x ≤ 99 ∧ I1 = I ∧ L1 = L ∧ mm = 7) ∨ (∃ a b, lv = bu_l73 (x / 100) e V (some (.int a)) (some (.int b)) (e - 2) ∧ st = [] ∧ T1 = T ∧ N1 = N ∧ R1 = R ∧ nc = 0 ∧ ns = 0 ∧ 99 < x ∧ I1 = bu_w x e V I ∧ L1 = L ∧ mm = 7))
  else none
def bu_c273 : wv_c1 := fun as T N I L R q => ∃ (x e V cap : Nat), as = [.int (Int32.ofNat x), .int (Int32.ofNat e), .ref V] ∧ x < 1000 ∧ bu_T T I ∧ T V = some (.inr (3, cap)) ∧ V < 1099511627776 ∧ tw_dl x ≤ e ∧ e ≤ cap ∧ cap < 100000 ∧ q (.inl (some (.int (Int32.ofNat (e - tw_dl x))))) T N (bu_gc x e V I) L R 0 0
set_option maxRecDepth 100000 in
theorem wM_273 : ∃ cb ci np, pt_mt 273 = some (26, cb, 7, false, some .int, ci, np) := ⟨_, _, _, rfl⟩
set_option maxRecDepth 100000 in
set_option maxHeartbeats 4000000 in
theorem bu_getChars {sc : pt_Sc} {d : Nat} : wv_C wm_fx sc (d + 1) 273 bu_c273 := by
  rintro as T N I L R q ⟨x, e, V, cap, rfl, hx, ⟨t1, t2, ht⟩, hV, hV2, hl, hec, hcap, h⟩ w0 HR
  obtain ⟨cb, ci, np, hm⟩ := wM_273
  refine wy_meth (hh := none) rfl (sp := fun _ _ _ _ _ _ _ _ => False) (hd := bu_h273 x e V T N I L R) (n := 300) (n1 := 300) hm zc_273 rfl (fun k as T N I L R q h => by cases h) ?_ ?_ HR
  · refine ⟨fun w1 => ?_, fun w1 => ?_⟩
    rotate_left
    · have w1 : ¬ 0 ≤ Int32.ofNat x := w1
      rw [wi_le, wi_on (by omega), wi_0] at w1
      omega
    refine ⟨fun w2 => absurd rfl w2, fun _ => ?_⟩
    exact ⟨9, Or.inl ⟨rfl, rfl, rfl, rfl, rfl, rfl, rfl, rfl, rfl, rfl⟩⟩
  · intro pc P hP m lv st T1 N1 I1 L1 R1 nc ns hh
    have lk : ∀ (J : Nat → Nat → Int32) r, (∀ j, J 1099511627781 j = I 1099511627781 j) → (∀ j, J 1099511627782 j = I 1099511627782 j) → r < 100 → J 1099511627781 r = Int32.ofNat (48 + r % 10) ∧ J 1099511627782 r = Int32.ofNat (48 + r / 10) := fun J r j1 j2 hr => ⟨(j1 r).trans (ht r hr).1, (j2 r).trans (ht r hr).2⟩
    have eV : ∀ {J : Nat → Nat → Int32} {k : Nat} {y : Int32} {c j : Nat}, 1099511627776 ≤ c → wv_u J V k y c j = J c j := fun hc => wv_u_no _ _ (by omega)
    have s1 : ∀ a, 1 ≤ a → a < 100000 → Int32.ofNat a + Int32.ofInt (-1) = Int32.ofNat (a - 1) := fun a h1 h2 => by
      rw [show Int32.ofInt (-1) = -(Int32.ofInt 1) from rfl, ← Int32.sub_eq_add_neg]
      exact wi_s1 h1 (by omega)
    unfold bu_h273 at hP
    by_cases p22 : pc = 22
    · rw [if_pos p22] at hP
      cases hP
      subst p22
      rcases hh with ⟨rfl, rfl, rfl, rfl, rfl, rfl, rfl, rfl, rfl, rfl⟩ | ⟨a, b, rfl, rfl, rfl, rfl, rfl, rfl, rfl, h99, rfl, rfl, rfl⟩
      · refine ⟨fun w1 => ?_, fun w1 => ?_⟩
        · have h9 := (bu_100 x hx).mp w1
          exact ⟨7, by omega, Or.inl ⟨rfl, rfl, rfl, rfl, rfl, rfl, rfl, by omega, rfl, rfl, rfl⟩⟩
        · have h9 : ¬ x < 100 := fun y => w1 ((bu_100 x hx).mpr y)
          have e3 : tw_dl x = 3 := by
            unfold tw_dl
            rw [if_pos (by omega)]
          have er := bu_r x hx
          have eq1 := bu_q x hx
          have ern := wi_onn (n := x % 100) (by omega)
          refine ⟨by decide, ?_⟩
          rw [eq1]
          refine ⟨3, _, Or.inr rfl, t1, ?_, ?_⟩
          · rw [er]
            exact pp_b (c := 100) (by omega) (by omega)
          rw [er, ern, (ht _ (by omega)).1, s1 e (by omega) (by omega)]
          refine ⟨_, hV, pp_b (c := cap) (by omega) (by omega), hV2, ?_⟩
          refine ⟨3, _, Or.inr rfl, t2, ?_, ?_⟩
          · first | exact pp_b (c := 100) (by omega) (by omega) | (rw [er]; exact pp_b (c := 100) (by omega) (by omega))
          first | rw [er, ern] | rw [ern]
          rw [eV (by omega), (ht _ (by omega)).2, s1 (e - 1) (by omega) (by omega)]
          refine ⟨_, hV, pp_b (c := cap) (by omega) (by omega), hV2, ?_⟩
          refine ⟨8, by omega, Or.inr ⟨-(Int32.ofNat (x / 100)), Int32.ofNat (x % 100), ?_, rfl, rfl, rfl, rfl, rfl, rfl, by omega, ?_, rfl, rfl⟩⟩
          · rw [show e - 2 = e - 1 - 1 by omega]
            rfl
          · unfold bu_w
            rw [wi_onn (by omega), wi_onn (by omega), bu_by _ (by omega), bu_by _ (by omega), show x % 100 % 10 = x % 10 by omega, show x % 100 / 10 = x / 10 % 10 by omega, show e - 1 - 1 = e - 2 by omega]
      · refine ⟨fun w1 => ?_, fun w1 => ?_⟩
        · exact ⟨7, by omega, Or.inr ⟨a, b, rfl, rfl, rfl, rfl, rfl, rfl, rfl, h99, rfl, rfl, rfl⟩⟩
        · exact (w1 ((bu_100 (x / 100) (by omega)).mpr (by omega))).elim
    rw [if_neg p22] at hP
    by_cases p72 : pc = 72
    · rw [if_pos p72] at hP
      cases hP
      subst p72
      rcases hh with ⟨rfl, rfl, rfl, rfl, rfl, rfl, rfl, h99, rfl, rfl, rfl⟩ | ⟨a, b, rfl, rfl, rfl, rfl, rfl, rfl, rfl, h99, rfl, rfl, rfl⟩
      · have l1 : 1 ≤ tw_dl x := by
          unfold tw_dl
          split
          · omega
          · split <;> omega
        have exn := wi_onn (n := x) (by omega)
        refine ⟨3, _, Or.inr rfl, t1, ?_, ?_⟩
        · rw [bu_n]
          exact pp_b (c := 100) (by omega) (by omega)
        rw [bu_n, exn, (ht _ (by omega)).1, s1 e (by omega) (by omega)]
        refine ⟨_, hV, pp_b (c := cap) (by omega) (by omega), hV2, ?_⟩
        rw [wi_onn (show e - 1 < 2147483648 by omega), bu_by _ (by omega)]
        refine ⟨fun w1 => ?_, fun w1 => ?_⟩
        · have h9 := (bu_9 x hx).mp w1
          have e1 : tw_dl x = 1 := by
            unfold tw_dl
            rw [if_neg (by omega), if_neg (by omega)]
          refine ⟨fun _ => ?_, fun w2 => absurd rfl w2⟩
          rw [e1, ← bu_gc1 h9 (by omega)] at h
          exact h
        · have h9 : ¬ x ≤ 9 := fun y => w1 ((bu_9 x hx).mpr y)
          have e1 : tw_dl x = 2 := by
            unfold tw_dl
            rw [if_neg (by omega), if_pos (by omega)]
          refine ⟨3, _, Or.inr rfl, t2, ?_, ?_⟩
          · rw [bu_n]
            exact pp_b (c := 100) (by omega) (by omega)
          rw [bu_n, exn, eV (by omega), (ht _ (by omega)).2, s1 (e - 1) (by omega) (by omega)]
          refine ⟨_, hV, pp_b (c := cap) (by omega) (by omega), hV2, ?_⟩
          rw [wi_onn (show e - 1 - 1 < 2147483648 by omega), bu_by _ (by omega)]
          refine ⟨fun _ => ?_, fun w2 => absurd rfl w2⟩
          rw [e1, ← bu_gc2 (by omega) h99 (by omega), show e - 2 = e - 1 - 1 by omega] at h
          exact h
      · have e1 : tw_dl x = 3 := by
          unfold tw_dl
          rw [if_pos (by omega)]
        have exn := wi_onn (n := x / 100) (by omega)
        refine ⟨3, _, Or.inr rfl, t1, ?_, ?_⟩
        · rw [bu_n]
          exact pp_b (c := 100) (by omega) (by omega)
        have q1 : bu_w x e V I 1099511627781 (x / 100) = Int32.ofNat (48 + x / 100) := by
          unfold bu_w
          rw [eV (by omega), eV (by omega), (ht _ (by omega)).1, show x / 100 % 10 = x / 100 by omega]
        rw [bu_n, exn, q1, s1 (e - 2) (by omega) (by omega)]
        refine ⟨_, hV, pp_b (c := cap) (by omega) (by omega), hV2, ?_⟩
        rw [wi_onn (show e - 2 - 1 < 2147483648 by omega), bu_by _ (by omega)]
        refine ⟨fun w1 => ?_, fun w1 => ?_⟩
        · refine ⟨fun _ => ?_, fun w2 => absurd rfl w2⟩
          rw [e1, ← bu_gc3 h99 (by omega), show e - 3 = e - 2 - 1 by omega] at h
          exact h
        · exact (w1 ((bu_9 (x / 100) (by omega)).mpr (by omega))).elim
    rw [if_neg p72] at hP
    cases hP
