/-! ===== the reference: signs of a design ===== -/
/-- sign k of a text, or -1 -/
def tw_c (z : List Nat) (k : Nat) : Int32 := match z[k]? with
  | some c => Int32.ofNat c
  | none => Int32.ofInt (-1)
def tw_H (k : Nat) (z : List Nat) (I : Nat → Nat → Int32) : Prop := I 460 117 = Int32.ofNat k ∧ I 460 118 = Int32.ofNat z.length ∧ I 460 119 = tw_c z k
def tw_F (I J : Nat → Nat → Int32) : Prop := ∀ c j, ¬ (c = 460 ∧ 117 ≤ j ∧ j ≤ 119) → J c j = I c j
theorem tw_F_t {I J K : Nat → Nat → Int32} (h : tw_F I J) (g : tw_F J K) : tw_F I K := fun c j z => (g c j z).trans (h c j z)
theorem tw_at {z : List Nat} {c : Nat} : tw_c (z ++ [c]) z.length = Int32.ofNat c := by
  unfold tw_c
  rw [List.getElem?_append_right (Nat.le_refl _), Nat.sub_self]
  rfl
theorem tw_no {z : List Nat} {c k : Nat} (h : ¬ z.length = k) : tw_c (z ++ [c]) k = tw_c z k := by
  unfold tw_c
  by_cases e : k < z.length
  · rw [List.getElem?_append_left e]
  · rw [List.getElem?_append_right (by omega), List.getElem?_eq_none (by simp; omega), List.getElem?_eq_none (by omega)]
/-- a number's signs -/
def tw_n (x : Nat) : List Nat := [32] ++ ((if 99 < x then [48 + x / 100] else []) ++ ((if 9 < x then [48 + x / 10 % 10] else []) ++ [48 + x % 10]))
theorem tw_n_l (x : Nat) : (tw_n x).length ≤ 4 := by
  unfold tw_n
  split <;> split <;> simp
def tw_c491 : wv_c1 := fun as T N I L R q => ∃ (k c : Nat) (z : List Nat), as = [.ref 460, .int (Int32.ofNat c)] ∧ tw_H k z I ∧ k < 2147483648 ∧ z.length < 100000 ∧ ∀ I1, tw_H k (z ++ [c]) I1 → tw_F I I1 → q (.inl none) T N I1 L R 0 0
set_option maxRecDepth 100000 in
theorem wM_491 : ∃ cb ci np, pt_mt 491 = some (32, cb, 2, false, none, ci, np) := ⟨_, _, _, rfl⟩
set_option maxRecDepth 100000 in
set_option maxHeartbeats 4000000 in
theorem tw_writeSign {sc : pt_Sc} {d : Nat} : wv_C wm_fx sc (d + 1) 491 tw_c491 := by
  rintro as T N I L R q ⟨k, c, z, rfl, ⟨h1, h2, h3⟩, hk, hz, h⟩ w0 HR
  obtain ⟨cb, ci, np, hm⟩ := wM_491
  refine wv_meth (hh := none) rfl (sp := fun _ _ _ _ _ _ _ _ => False) (hd := fun _ => none) (n := 0) (n1 := 300) hm zc_491 rfl (fun k as T N I L R q h => by cases h) ?_ (fun pc P h => by cases h) HR
  have e1 : Int32.ofNat z.length + Int32.ofInt 1 = Int32.ofNat (z ++ [c]).length := by
    rw [wq_4s]
    simp
  have ek := wi_on (n := k) (by omega)
  have el := wi_on (n := z.length) (by omega)
  refine ⟨fun w1 => ?_, fun w1 => ?_⟩
  · have w1 : ¬ I 460 118 = I 460 117 := w1
    have w2 := w1
    rw [h1, h2, wi_eq, ek, el] at w2
    refine h _ ⟨?_, ?_, ?_⟩ (fun c1 j1 hz => ?_)
    · rw [wv_u_no _ _ (by omega), wv_u_no _ _ (by omega)]
      exact h1
    · rw [wv_u_at, wv_u_no _ _ (by omega), h2]
      exact e1
    · rw [wv_u_no _ _ (by omega), wv_u_at, h3, tw_no (by omega)]
    · rw [wv_u_no _ _ (by omega), wv_u_no _ _ (by omega)]
  · have w1 : ¬ ¬ I 460 118 = I 460 117 := w1
    have w2 := Classical.not_not.mp w1
    rw [h1, h2, wi_eq, ek, el] at w2
    have e2 : k = z.length := by omega
    refine h _ ⟨?_, ?_, ?_⟩ (fun c1 j1 hz => ?_)
    · rw [wv_u_no _ _ (by omega), wv_u_no _ _ (by omega)]
      exact h1
    · rw [wv_u_at, wv_u_no _ _ (by omega), h2]
      exact e1
    · rw [wv_u_no _ _ (by omega), wv_u_at, e2, tw_at]
    · rw [wv_u_no _ _ (by omega), wv_u_no _ _ (by omega)]
theorem tw_div {x y : Nat} (hx : x < 1000) (h0 : 0 < y) (hy : y < 1000) : Int32.ofNat x / Int32.ofNat y = Int32.ofNat (x / y) := wi_dn (by omega) (by omega)
theorem tw_rem {x y : Nat} (hx : x < 1000) (h0 : 0 < y) (hy : y < 1000) : Int32.ofNat x - Int32.ofNat x / Int32.ofNat y * Int32.ofNat y = Int32.ofNat (x % y) := wi_rn (by omega) (by omega)
def tw_l92 (x : Nat) : List (Option Value) := [some (.ref 460), some (.int (Int32.ofNat x)), none, none]
def tw_h492 (k x : Nat) (z : List Nat) (T : wv_T) (N : Nat) (I : Nat → Nat → Int32) (L : Nat → Nat → Int64) (R : Nat → Nat → Option Nat) : Nat → Option (Nat → wv_P) := fun pc =>
  if pc = 23 then some (fun mm lv st T1 N1 I1 L1 R1 nc ns => lv = tw_l92 x ∧ st = [] ∧ T1 = T ∧ N1 = N ∧ L1 = L ∧ R1 = R ∧ nc = 0 ∧ ns = 0 ∧ tw_H k (z ++ ([32] ++ (if 99 < x then [48 + x / 100] else []))) I1 ∧ tw_F I I1 ∧ mm = 9)
  else if pc = 43 then some (fun mm lv st T1 N1 I1 L1 R1 nc ns => lv = tw_l92 x ∧ st = [] ∧ T1 = T ∧ N1 = N ∧ L1 = L ∧ R1 = R ∧ nc = 0 ∧ ns = 0 ∧ tw_H k (z ++ ([32] ++ ((if 99 < x then [48 + x / 100] else []) ++ (if 9 < x then [48 + x / 10 % 10] else [])))) I1 ∧ tw_F I I1 ∧ mm = 8)
  else none
def tw_c492 : wv_c1 := fun as T N I L R q => ∃ (k x : Nat) (z : List Nat), as = [.ref 460, .int (Int32.ofNat x)] ∧ x < 1000 ∧ tw_H k z I ∧ k < 2147483648 ∧ z.length < 100000 ∧ z.length + 4 < 100000 ∧ ∀ I1, tw_H k (z ++ tw_n x) I1 → tw_F I I1 → q (.inl none) T N I1 L R 0 0
set_option maxRecDepth 100000 in
theorem wM_492 : ∃ cb ci np, pt_mt 492 = some (32, cb, 2, false, none, ci, np) := ⟨_, _, _, rfl⟩
set_option maxRecDepth 100000 in
set_option maxHeartbeats 4000000 in
theorem tw_writeNumber {sc : pt_Sc} {d : Nat} : wv_C wm_fx sc (d + 1 + 1) 492 tw_c492 := by
  rintro as T N I L R q ⟨k, x, z, rfl, hx, h1, hk, hz, hz4, h⟩ w0 HR
  obtain ⟨cb, ci, np, hm⟩ := wM_492
  have hc491 : wv_C wm_fx sc (d + 1) 491 tw_c491 := wv_C_deep (by omega) (tw_writeSign (d := d))
  refine wv_meth (hh := none) rfl (sp := wv_sp [(491, tw_c491)]) (hd := tw_h492 k x z T N I L R) (n := 300) (n1 := 300) hm zc_492 rfl (wv_sp_ok (fun q hq => by rw [List.mem_singleton.mp hq]; exact hc491)) ?_ ?_ HR
  · refine ⟨k, 32, z, rfl, h1, hk, hz, fun I1 g1 f1 => ?_⟩
    refine ⟨fun w1 => ?_, fun w1 => ?_⟩
    · have w1 : Int32.ofNat x ≤ Int32.ofNat 99 := w1
      rw [wi_le, wi_on (by omega), wi_on (by omega)] at w1
      refine ⟨9, rfl, rfl, rfl, rfl, rfl, rfl, rfl, rfl, ?_, f1, rfl⟩
      rw [if_neg (by omega)]
      exact g1
    · have w1 : ¬ Int32.ofNat x ≤ Int32.ofNat 99 := w1
      rw [wi_le, wi_on (by omega), wi_on (by omega)] at w1
      have e100 : (Int8.ofInt 48).toInt32 + Int32.ofNat x / (Int8.ofInt 100).toInt32 = Int32.ofNat (48 + x / 100) := by
        rw [show (Int8.ofInt 48).toInt32 = Int32.ofNat 48 from rfl, show (Int8.ofInt 100).toInt32 = Int32.ofNat 100 from rfl, tw_div hx (by omega) (by omega), wi_ona]
      refine ⟨by decide, k, 48 + x / 100, z ++ [32], (by first | rfl | (rw [e100]; rfl)), g1, hk, by simp; omega, fun I2 g2 f2 => ?_⟩
      refine ⟨9, rfl, rfl, rfl, rfl, rfl, rfl, rfl, rfl, ?_, tw_F_t f1 f2, rfl⟩
      rw [if_pos (by omega), ← List.append_assoc]
      exact g2
  · intro pc P hP m lv st T1 N1 I1 L1 R1 nc ns hh
    unfold tw_h492 at hP
    by_cases p23 : pc = 23
    · rw [if_pos p23] at hP
      cases hP
      subst p23
      obtain ⟨rfl, rfl, rfl, rfl, rfl, rfl, rfl, rfl, g1, f1, rfl⟩ := hh
      have hl : (z ++ ([32] ++ (if 99 < x then [48 + x / 100] else []))).length ≤ z.length + 2 := by
        split <;> simp
      refine ⟨fun w1 => ?_, fun w1 => ?_⟩
      · have w1 : Int32.ofNat x ≤ Int32.ofNat 9 := w1
        rw [wi_le, wi_on (by omega), wi_on (by omega)] at w1
        refine ⟨8, by omega, rfl, rfl, rfl, rfl, rfl, rfl, rfl, rfl, ?_, f1, rfl⟩
        rw [if_neg (show ¬ 9 < x by omega), List.append_nil]
        exact g1
      · have w1 : ¬ Int32.ofNat x ≤ Int32.ofNat 9 := w1
        rw [wi_le, wi_on (by omega), wi_on (by omega)] at w1
        have e10 : (Int8.ofInt 48).toInt32 + (Int32.ofNat x / (Int8.ofInt 10).toInt32 - Int32.ofNat x / (Int8.ofInt 10).toInt32 / (Int8.ofInt 10).toInt32 * (Int8.ofInt 10).toInt32) = Int32.ofNat (48 + x / 10 % 10) := by
          rw [show (Int8.ofInt 48).toInt32 = Int32.ofNat 48 from rfl, show (Int8.ofInt 10).toInt32 = Int32.ofNat 10 from rfl, tw_div hx (by omega) (by omega), tw_rem (Nat.lt_of_le_of_lt (Nat.div_le_self x 10) hx) (by omega) (by omega), wi_ona]
        refine ⟨by decide, by decide, k, 48 + x / 10 % 10, _, (by first | rfl | (rw [e10]; rfl)), g1, hk, by omega, fun I2 g2 f2 => ?_⟩
        refine ⟨8, by omega, rfl, rfl, rfl, rfl, rfl, rfl, rfl, rfl, ?_, tw_F_t f1 f2, rfl⟩
        rw [if_pos (show 9 < x by omega)]
        rw [List.append_assoc, List.append_assoc] at g2
        exact g2
    rw [if_neg p23] at hP
    by_cases p43 : pc = 43
    · rw [if_pos p43] at hP
      cases hP
      subst p43
      obtain ⟨rfl, rfl, rfl, rfl, rfl, rfl, rfl, rfl, g1, f1, rfl⟩ := hh
      have hl : (z ++ ([32] ++ ((if 99 < x then [48 + x / 100] else []) ++ (if 9 < x then [48 + x / 10 % 10] else [])))).length ≤ z.length + 3 := by
        split <;> split <;> simp
      have e1 : (Int8.ofInt 48).toInt32 + (Int32.ofNat x - Int32.ofNat x / (Int8.ofInt 10).toInt32 * (Int8.ofInt 10).toInt32) = Int32.ofNat (48 + x % 10) := by
        rw [show (Int8.ofInt 48).toInt32 = Int32.ofNat 48 from rfl, show (Int8.ofInt 10).toInt32 = Int32.ofNat 10 from rfl, tw_rem hx (by omega) (by omega), wi_ona]
      refine ⟨by decide, k, 48 + x % 10, _, (by first | rfl | (rw [e1]; rfl)), g1, hk, by omega, fun I2 g2 f2 => ?_⟩
      refine h _ ?_ (tw_F_t f1 f2)
      unfold tw_n
      rw [List.append_assoc, List.append_assoc, List.append_assoc] at g2
      exact g2
    rw [if_neg p43] at hP
    cases hP
