/-! ===== pairs, blocks and counts in memory ===== -/
section PC
/-- pairs -/
theorem pb_andP {L L1 : Nat → Nat → Int64} {s t : Nat} {U V : np_A} (hU : pb_P L s U) (hV : pb_P L (s + np_n U) V) (ht : t = s + np_n U + np_n V) (e : ∀ p, p < t → L1 506 p = L 506 p ∧ L1 507 p = L 507 p) (h6 : ∀ i, i < np_n U * np_n V → ∀ v, v < 64 → nb (L1 506 (t + i)) v = (np_M U (i / np_n V) v && np_M V (i % np_n V) v)) (h7 : ∀ i, i < np_n U * np_n V → pb_b (L1 507 (t + i)) s (np_n U + np_n V + np_n U * np_n V) (np_B (np_and U V) (np_n U + np_n V + i))) : pb_P L1 s (np_and U V) := by
  have h := pb_orP hU hV (L1 := L1) (fun p hp => e p (by omega))
  intro p hp
  have hp : p < np_n U + np_n V + np_n U * np_n V := hp
  show (∀ v, v < 64 → nb (L1 506 (s + p)) v = (if p < np_n U + np_n V then np_sM U V p else fun v => np_M U ((p - (np_n U + np_n V)) / np_n V) v && np_M V ((p - (np_n U + np_n V)) % np_n V) v) v) ∧ pb_b (L1 507 (s + p)) s (np_n U + np_n V + np_n U * np_n V) (np_B (np_and U V) p)
  by_cases c : p < np_n U + np_n V
  · obtain ⟨g1, g2⟩ := h p c
    rw [if_pos c]
    refine ⟨g1, pb_b_c (pb_b_l g2 (np_n U * np_n V)) (fun q hq => ?_)⟩
    show (if q < np_n U + np_n V then np_sB U V (fun _ _ => false) p q else false) = (if p < np_n U + np_n V then (if q < np_n U + np_n V then np_sB U V (fun _ _ => false) p q else false) else _)
    rw [if_pos c]
  · obtain ⟨i, rfl⟩ : ∃ i, p = np_n U + np_n V + i := ⟨p - (np_n U + np_n V), by omega⟩
    rw [if_neg c, Nat.add_sub_cancel_left, show s + (np_n U + np_n V + i) = t + i by omega]
    exact ⟨h6 i (by omega), h7 i (by omega)⟩
theorem np_and_F {U V : np_A} {i : Nat} : np_F (np_and U V) (np_n U + np_n V + i) = (np_F U (i / np_n V) && np_F V (i % np_n V)) ∧ np_L (np_and U V) (np_n U + np_n V + i) = (np_L U (i / np_n V) && np_L V (i % np_n V)) := by
  constructor
  · show (if np_n U + np_n V + i < np_n U + np_n V then false else np_F U ((np_n U + np_n V + i - (np_n U + np_n V)) / np_n V) && np_F V ((np_n U + np_n V + i - (np_n U + np_n V)) % np_n V)) = _
    rw [if_neg (by omega), Nat.add_sub_cancel_left]
  · show (if np_n U + np_n V + i < np_n U + np_n V then false else np_L U ((np_n U + np_n V + i - (np_n U + np_n V)) / np_n V) && np_L V ((np_n U + np_n V + i - (np_n U + np_n V)) % np_n V)) = _
    rw [if_neg (by omega), Nat.add_sub_cancel_left]
theorem np_and_B {U V : np_A} {i j : Nat} : np_B (np_and U V) (np_n U + np_n V + i) (np_n U + np_n V + j) = (np_B U (i / np_n V) (j / np_n V) && np_B V (i % np_n V) (j % np_n V)) := by
  show (if np_n U + np_n V + i < np_n U + np_n V then _ else if np_n U + np_n V + j < np_n U + np_n V then false else np_B U ((np_n U + np_n V + i - (np_n U + np_n V)) / np_n V) ((np_n U + np_n V + j - (np_n U + np_n V)) / np_n V) && np_B V ((np_n U + np_n V + i - (np_n U + np_n V)) % np_n V) ((np_n U + np_n V + j - (np_n U + np_n V)) % np_n V)) = _
  rw [if_neg (by omega), if_neg (by omega), Nat.add_sub_cancel_left, Nat.add_sub_cancel_left]
theorem np_and_0 {U V : np_A} {j : Nat} (hj : j < np_n U + np_n V) : np_F (np_and U V) j = false ∧ np_L (np_and U V) j = false ∧ ∀ i, np_B (np_and U V) (np_n U + np_n V + i) j = false := by
  refine ⟨if_pos hj, if_pos hj, fun i => ?_⟩
  show (if np_n U + np_n V + i < np_n U + np_n V then _ else if j < np_n U + np_n V then false else _) = _
  rw [if_neg (by omega), if_pos hj]
theorem pb_bz {s n : Nat} {f : Nat → Bool} (h : ∀ j, j < n → f j = false) : pb_b 0 s n f := pb_b_c pb_b_0 (fun p hp => (h p hp).symm)
/-- copies further on -/
theorem pb_shift {x : Int64} {s n K : Nat} {f : Nat → Bool} (h : pb_b x s n f) (h1 : s + n ≤ 63) (hK : K < 64) : pb_b ((x >>> ((Int32.ofNat s).toInt64 &&& 63)) <<< ((Int32.ofNat K).toInt64 &&& 63)) K n f := fun q hq => by
  have h63 : nb x 63 = false := Bool.eq_false_iff.mpr (pb_b_out h (by omega) (by omega))
  rw [nb_shl hK, nb_sshr (show s < 64 by omega), h63, decide_eq_true hq, Bool.true_and, Bool.and_eq_true, decide_eq_true_iff]
  constructor
  · rintro ⟨a, b⟩
    rw [decide_eq_true (show q - K < 64 by omega), Bool.true_and] at b
    by_cases c : s + (q - K) < 64
    · rw [if_pos c, h _ c] at b
      obtain ⟨b1, b2, b3⟩ := b
      rw [Nat.add_sub_cancel_left] at b3
      exact ⟨a, by omega, b3⟩
    · rw [if_neg c] at b
      cases b
  · rintro ⟨a, b, c⟩
    refine ⟨a, ?_⟩
    rw [decide_eq_true (show q - K < 64 by omega), Bool.true_and, if_pos (by omega), h _ (by omega), Nat.add_sub_cancel_left]
    exact ⟨by omega, by omega, c⟩
theorem dv_at {n k r : Nat} (h : r < n) : (n * k + r) / n = k ∧ (n * k + r) % n = r := by
  constructor
  · rw [Nat.add_comm, Nat.add_mul_div_left _ _ (by omega), Nat.div_eq_of_lt h, Nat.zero_add]
  · rw [Nat.mul_add_mod, Nat.mod_eq_of_lt h]
theorem dv_eq {n q : Nat} : n * (q / n) + q % n = q := Nat.div_add_mod q n
theorem dv_lt {n q k : Nat} (h : q < n * k) : q / n < k ∧ q % n < n := by
  have hn : 0 < n := by
    rcases Nat.eq_zero_or_pos n with z | z
    · subst z
      rw [Nat.zero_mul] at h
      omega
    · exact z
  exact ⟨Nat.div_lt_of_lt_mul h, Nat.mod_lt _ hn⟩
theorem pb_blk {x : Int64} {s n k hi : Nat} {f : Nat → Bool} (h : pb_b x (s + n * k) n f) (hk : k < hi) : pb_b x s (n * hi) (fun q => decide (q / n = k) && f (q % n)) := fun q hq => by
  have hm : n * k + n ≤ n * hi := by
    have := Nat.mul_le_mul_left n (show k + 1 ≤ hi by omega)
    rw [Nat.mul_add, Nat.mul_one] at this
    exact this
  rw [h q hq]
  constructor
  · rintro ⟨a, b, c⟩
    obtain ⟨r, hr⟩ : ∃ r, q = s + n * k + r := ⟨q - (s + n * k), by omega⟩
    have hrn : r < n := by omega
    obtain ⟨d1, d2⟩ := dv_at (k := k) hrn
    refine ⟨by omega, by omega, ?_⟩
    show (decide ((q - s) / n = k) && f ((q - s) % n)) = true
    rw [show q - s = n * k + r by omega, d1, d2, decide_eq_true rfl, Bool.true_and]
    rw [show q - (s + n * k) = r by omega] at c
    exact c
  · rintro ⟨a, b, c⟩
    have c : (decide ((q - s) / n = k) && f ((q - s) % n)) = true := c
    rw [Bool.and_eq_true, decide_eq_true_iff] at c
    obtain ⟨c1, c2⟩ := c
    have e := dv_eq (n := n) (q := q - s)
    obtain ⟨_, d2⟩ := dv_lt (n := n) (q := q - s) (k := hi) (by omega)
    rw [c1] at e
    refine ⟨by omega, by omega, ?_⟩
    rw [show q - (s + n * k) = (q - s) % n by omega]
    exact c2
/-- blocks joined up to the k-th -/
def np_tB (U : np_A) (k : Nat) (p q : Nat) : Bool := if q / np_n U = p / np_n U then np_B U (p % np_n U) (q % np_n U) else if q / np_n U = p / np_n U + 1 ∧ q / np_n U < k then np_L U (p % np_n U) && np_F U (q % np_n U) else false
theorem np_tB_1 {U : np_A} {p q : Nat} : np_tB U 1 p q = (decide (q / np_n U = p / np_n U) && np_B U (p % np_n U) (q % np_n U)) := by
  unfold np_tB
  by_cases c : q / np_n U = p / np_n U
  · rw [if_pos c, decide_eq_true c, Bool.true_and]
  · rw [if_neg c, decide_eq_false c, Bool.false_and, if_neg (fun z => by
      generalize p / np_n U = b at *
      omega)]
theorem np_tB_hi {U : np_A} {lo hi : Nat} (h : ¬ hi = 0) {p q : Nat} (hq : q < np_n U * hi) : np_B (np_times lo hi U) p q = np_tB U hi p q := by
  obtain ⟨d1, _⟩ := dv_lt hq
  unfold np_times np_tB
  rw [if_neg h]
  show (if q / np_n U = p / np_n U then np_B U (p % np_n U) (q % np_n U) else if q / np_n U = p / np_n U + 1 then np_L U (p % np_n U) && np_F U (q % np_n U) else false) = _
  by_cases c : q / np_n U = p / np_n U
  · rw [if_pos c, if_pos c]
  · rw [if_neg c, if_neg c]
    by_cases c2 : q / np_n U = p / np_n U + 1
    · rw [if_pos c2, if_pos ⟨c2, d1⟩]
    · rw [if_neg c2, if_neg (fun z => c2 z.1)]
/-- the blocks in memory -/
def pb_W (L : Nat → Nat → Int64) (s : Nat) (U : np_A) (k hi m : Nat) : Prop := ∀ p, p < m → (∀ v, v < 64 → nb (L 506 (s + p)) v = np_M U (p % np_n U) v) ∧ pb_b (L 507 (s + p)) s (np_n U * hi) (np_tB U k p)
theorem pb_W0 {L : Nat → Nat → Int64} {s hi : Nat} {U : np_A} (h : pb_P L s U) (hh : 0 < hi) : pb_W L s U 1 hi (np_n U) := fun p hp => by
  obtain ⟨g1, g2⟩ := h p hp
  rw [Nat.mod_eq_of_lt hp]
  have g3 : pb_b (L 507 (s + p)) (s + np_n U * 0) (np_n U) (np_B U p) := by
    rw [Nat.mul_zero]
    exact g2
  refine ⟨g1, pb_b_c (pb_blk g3 hh) (fun q _ => ?_)⟩
  rw [np_tB_1, Nat.mod_eq_of_lt hp, Nat.div_eq_of_lt hp]
/-- a place of a further block -/
theorem pb_W1 {L L1 : Nat → Nat → Int64} {s hi k p : Nat} {U : np_A} (h : pb_P L s U) (hW : pb_W L s U 1 hi (np_n U * k + p)) (hp : p < np_n U) (hk : k < hi) (h63 : s + np_n U * hi ≤ 63) (e : ∀ j, j < s + (np_n U * k + p) → L1 506 j = L 506 j ∧ L1 507 j = L 507 j) (e6 : L1 506 (s + (np_n U * k + p)) = L 506 (s + p)) (e7 : L1 507 (s + (np_n U * k + p)) = (L 507 (s + p) >>> ((Int32.ofNat s).toInt64 &&& 63)) <<< ((Int32.ofNat (s + np_n U * k)).toInt64 &&& 63)) : pb_W L1 s U 1 hi (np_n U * k + (p + 1)) := fun a ha => by
  have hm : np_n U * k + np_n U ≤ np_n U * hi := by
    have := Nat.mul_le_mul_left (np_n U) (show k + 1 ≤ hi by omega)
    rw [Nat.mul_add, Nat.mul_one] at this
    exact this
  by_cases c : a < np_n U * k + p
  · obtain ⟨z1, z2⟩ := e (s + a) (by omega)
    rw [z1, z2]
    exact hW a c
  · have ea : a = np_n U * k + p := by omega
    subst ea
    obtain ⟨g1, g2⟩ := h p hp
    obtain ⟨d1, d2⟩ := dv_at (k := k) hp
    rw [e6, e7, d2]
    refine ⟨g1, pb_b_c (pb_blk (pb_shift g2 (by omega) (by omega)) hk) (fun q _ => ?_)⟩
    rw [np_tB_1, d1, d2]
/-- a further block joined -/
theorem pb_W2 {L L1 : Nat → Nat → Int64} {s hi k t : Nat} {U : np_A} {be fi : Int64} (hW : pb_W L s U k hi (np_n U * hi)) (hk0 : 0 < k) (hk : k < hi) (h63 : s + np_n U * hi ≤ 63) (ht : s + np_n U * hi ≤ t) (hb : pb_b be (s + np_n U * (k - 1)) (np_n U) (np_L U)) (hf : pb_b fi (s + np_n U * k) (np_n U) (np_F U)) (e : ∀ j, j < s + np_n U * hi → L1 506 j = L 506 j ∧ L1 507 j = pb_ld L t be fi 507 j) : pb_W L1 s U (k + 1) hi (np_n U * hi) := fun p hp => by
  obtain ⟨z1, z2⟩ := e (s + p) (by omega)
  obtain ⟨g1, g2⟩ := hW p hp
  rw [z1, z2]
  refine ⟨g1, ?_⟩
  obtain ⟨d1, d2⟩ := dv_lt hp
  have ep := dv_eq (n := np_n U) (q := p)
  have bit : nb be (s + p) = (decide (p / np_n U = k - 1) && np_L U (p % np_n U)) := by
    have hb2 := pb_blk (hi := hi) hb (by omega)
    exact pb_b_at hb2 hp (by omega)
  unfold pb_ld
  by_cases c : nb be (s + p) = true
  · rw [if_pos ⟨rfl, by omega, c⟩]
    rw [c] at bit
    have bit := bit.symm
    rw [Bool.and_eq_true, decide_eq_true_iff] at bit
    refine pb_b_c (pb_b_o2 g2 (pb_blk hf hk)) (fun q hq => ?_)
    obtain ⟨b1, b2⟩ := bit
    unfold np_tB
    by_cases c1 : q / np_n U = p / np_n U
    · rw [if_pos c1, if_pos c1, decide_eq_false (by omega), Bool.false_and, Bool.or_false]
    · rw [if_neg c1, if_neg c1, if_neg (by omega), Bool.false_or, b2, Bool.true_and]
      by_cases c2 : q / np_n U = k
      · rw [decide_eq_true c2, Bool.true_and, if_pos (by omega)]
      · rw [decide_eq_false c2, Bool.false_and, if_neg (by omega)]
  · rw [if_neg (fun z => c z.2.2)]
    refine pb_b_c g2 (fun q hq => ?_)
    unfold np_tB
    by_cases c1 : q / np_n U = p / np_n U
    · rw [if_pos c1, if_pos c1]
    · rw [if_neg c1, if_neg c1]
      by_cases c2 : q / np_n U = p / np_n U + 1 ∧ q / np_n U < k
      · rw [if_pos c2, if_pos (by omega)]
      · rw [if_neg c2]
        by_cases c3 : q / np_n U = p / np_n U + 1 ∧ q / np_n U < k + 1
        · rw [if_pos c3]
          have hL : np_L U (p % np_n U) = false := by
            cases e : np_L U (p % np_n U) with
            | false => rfl
            | true =>
              rw [e, decide_eq_true (by omega)] at bit
              exact (c bit).elim
          rw [hL, Bool.false_and]
        · rw [if_neg c3]
theorem pb_timesP {L : Nat → Nat → Int64} {s lo hi : Nat} {U : np_A} (hh : ¬ hi = 0) (hW : pb_W L s U hi hi (np_n U * hi)) : pb_P L s (np_times lo hi U) := by
  have e1 : np_n (np_times lo hi U) = np_n U * hi := by
    unfold np_times
    rw [if_neg hh]
    rfl
  have e2 : np_M (np_times lo hi U) = fun p => np_M U (p % np_n U) := by
    unfold np_times
    rw [if_neg hh]
    rfl
  intro p hp
  rw [e1] at hp ⊢
  obtain ⟨g1, g2⟩ := hW p hp
  exact ⟨fun v hv => by rw [g1 v hv, e2], pb_b_c g2 (fun q hq => (np_tB_hi hh hq).symm)⟩
/-- last ones up to block k -/
def np_tL (U : np_A) (lo k : Nat) (p : Nat) : Bool := np_L U (p % np_n U) && decide (np_need U lo ≤ p / np_n U + 1) && decide (p / np_n U < k)
theorem pb_tL1 {s hi k lo : Nat} {U : np_A} {x be : Int64} (h : pb_b x s (np_n U * hi) (np_tL U lo k)) (hk : k < hi) (hb : pb_b be (s + np_n U * k) (np_n U) (np_L U)) : pb_b (x ||| (if np_need U lo ≤ k + 1 then be else 0)) s (np_n U * hi) (np_tL U lo (k + 1)) := by
  have hb2 := pb_blk (hi := hi) hb hk
  by_cases c : np_need U lo ≤ k + 1
  · rw [if_pos c]
    refine pb_b_c (pb_b_o2 h hb2) (fun q hq => ?_)
    unfold np_tL
    by_cases c1 : q / np_n U = k
    · rw [c1, decide_eq_true rfl, decide_eq_false (Nat.lt_irrefl _), decide_eq_true c, decide_eq_true (Nat.lt_succ_self _)]
      simp
    · rw [decide_eq_false c1]
      by_cases c2 : q / np_n U < k
      · rw [decide_eq_true c2, decide_eq_true (show q / np_n U < k + 1 by omega)]
        simp
      · rw [decide_eq_false c2, decide_eq_false (show ¬ q / np_n U < k + 1 by omega)]
        simp
  · rw [if_neg c]
    have e0 : x ||| 0 = x := nb_ext (fun j _ => by rw [nb_or, nb_0, Bool.or_false])
    rw [e0]
    refine pb_b_c h (fun q hq => ?_)
    unfold np_tL
    by_cases c1 : q / np_n U = k
    · rw [c1, decide_eq_false (Nat.lt_irrefl _), decide_eq_false c]
      simp
    · by_cases c2 : q / np_n U < k
      · rw [decide_eq_true c2, decide_eq_true (show q / np_n U < k + 1 by omega)]
      · rw [decide_eq_false c2, decide_eq_false (show ¬ q / np_n U < k + 1 by omega)]
theorem pb_tL0 {s hi lo : Nat} {U : np_A} : pb_b 0 s (np_n U * hi) (np_tL U lo 0) := pb_bz (fun j _ => by
  unfold np_tL
  rw [decide_eq_false (Nat.not_lt_zero _), Bool.and_false])
theorem pb_tLe {s hi lo : Nat} {U : np_A} {x : Int64} (hh : ¬ hi = 0) (h : pb_b x s (np_n U * hi) (np_tL U lo hi)) : pb_b x s (np_n (np_times lo hi U)) (np_L (np_times lo hi U)) := by
  unfold np_times
  rw [if_neg hh]
  refine pb_b_c (n := np_n U * hi) h (fun q hq => ?_)
  obtain ⟨d1, _⟩ := dv_lt hq
  unfold np_tL
  rw [decide_eq_true d1, Bool.and_true]
  rfl
theorem pb_tF {s hi lo : Nat} {U : np_A} {x : Int64} (hh : ¬ hi = 0) (h : pb_b x s (np_n U) (np_F U)) : pb_b x s (np_n (np_times lo hi U)) (np_F (np_times lo hi U)) := by
  unfold np_times
  rw [if_neg hh]
  have e : np_n U * hi = np_n U + np_n U * (hi - 1) := by
    obtain ⟨k, rfl⟩ : ∃ k, hi = k + 1 := ⟨hi - 1, by omega⟩
    rw [Nat.mul_add, Nat.mul_one, Nat.add_sub_cancel, Nat.add_comm]
  show pb_b x s (np_n U * hi) (fun p => decide (p < np_n U) && np_F U p)
  rw [e]
  refine pb_b_c (pb_b_l h _) (fun q hq => ?_)
  by_cases c : q < np_n U
  · rw [if_pos c, decide_eq_true c, Bool.true_and]
  · rw [if_neg c, decide_eq_false c, Bool.false_and]
/-- counts of a condition -/
def np_oB (p q : Nat) : Bool := decide (1 ≤ p) && (decide (q = 1 + 2 * (p / 2)) || decide (q = 2 + 2 * (p / 2)))
def np_oM (m : Nat → Bool) (p : Nat) : Nat → Bool := if p = 0 then m else if p % 2 = 1 then (fun v => ! m v) else m
def pb_O (L : Nat → Nat → Int64) (s : Nat) (m : Nat → Bool) (c : Nat) : Prop := ∀ p, p < c → (∀ v, v < 64 → nb (L 506 (s + p)) v = np_oM m p v) ∧ pb_b (L 507 (s + p)) s c (np_oB p)
theorem pb_O0 {L : Nat → Nat → Int64} {s : Nat} {m : Nat → Bool} (h : pb_P L s (np_cond m)) : pb_O L s m 1 := fun p hp => by
  have hp0 : p = 0 := by omega
  subst hp0
  obtain ⟨g1, g2⟩ := h 0 Nat.zero_lt_one
  exact ⟨g1, pb_b_c (n := 1) g2 (fun q _ => rfl)⟩
theorem pb_OP {L : Nat → Nat → Int64} {s n : Nat} {wb : Bool} {m : Nat → Bool} (h : pb_O L s m (1 + nt_S n wb)) : pb_P L s (np_occ n wb m) := h
/-- one more place; those of be lead to it (and it to those of own) -/
theorem pb_O1 {L L1 : Nat → Nat → Int64} {s k t : Nat} {m : Nat → Bool} {be both : Int64} (h : pb_O L s m (2 * k + 1)) (ht : t = s + (2 * k + 3)) (h64 : t ≤ 64) (hbe : ∀ j, j < 64 → (nb be j = true ↔ 0 < k ∧ j = s + 2 * k)) (hbo : ∀ j, j < 64 → (nb both j = true ↔ j = s + (2 * k + 1) ∨ j = s + (2 * k + 2))) (e : ∀ j, j < s + (2 * k + 1) → L1 506 j = L 506 j ∧ L1 507 j = pb_ld L t be both 507 j) (e1 : (∀ v, v < 64 → nb (L1 506 (s + (2 * k + 1))) v = ! m v) ∧ L1 507 (s + (2 * k + 1)) = both) (e2 : (∀ v, v < 64 → nb (L1 506 (s + (2 * k + 2))) v = m v) ∧ L1 507 (s + (2 * k + 2)) = 0) : pb_O L1 s m (2 * (k + 1) + 1) := by
  have hbo2 : pb_b both s (2 * k + 1 + 2) (fun q => decide (q = 2 * k + 1) || decide (q = 2 * k + 2)) := fun q hq => by
    rw [hbo q hq, Bool.or_eq_true, decide_eq_true_iff, decide_eq_true_iff]
    omega
  intro p hp
  rw [show 2 * (k + 1) + 1 = 2 * k + 1 + 2 by omega] at hp ⊢
  by_cases c1 : p = 2 * k + 1
  · subst c1
    rw [e1.2]
    refine ⟨fun v hv => ?_, pb_b_c hbo2 (fun q hq => ?_)⟩
    · rw [e1.1 v hv]
      unfold np_oM
      rw [if_neg (by omega), if_pos (by omega)]
    · unfold np_oB
      rw [decide_eq_true (show 1 ≤ 2 * k + 1 by omega), Bool.true_and, show (2 * k + 1) / 2 = k by omega, Nat.add_comm 1, Nat.add_comm 2]
  by_cases c2 : p = 2 * k + 2
  · subst c2
    rw [e2.2]
    refine ⟨fun v hv => ?_, pb_bz (fun q hq => ?_)⟩
    · rw [e2.1 v hv]
      unfold np_oM
      rw [if_neg (by omega), if_neg (by omega)]
    · unfold np_oB
      rw [show (2 * k + 2) / 2 = k + 1 by omega, decide_eq_false (show ¬ q = 1 + 2 * (k + 1) by omega), decide_eq_false (show ¬ q = 2 + 2 * (k + 1) by omega)]
      simp
  obtain ⟨z1, z2⟩ := e (s + p) (by omega)
  obtain ⟨g1, g2⟩ := h p (by omega)
  rw [z1, z2]
  refine ⟨g1, ?_⟩
  unfold pb_ld
  by_cases c : nb be (s + p) = true
  · obtain ⟨k0, kp⟩ := (hbe _ (by omega)).mp c
    have ep : p = 2 * k := by omega
    subst ep
    rw [if_pos ⟨rfl, by omega, c⟩]
    refine pb_b_c (pb_b_o2 (pb_b_l g2 2) hbo2) (fun q hq => ?_)
    unfold np_oB
    rw [decide_eq_true (show 1 ≤ 2 * k by omega), Bool.true_and, show 2 * k / 2 = k by omega, Nat.add_comm 1, Nat.add_comm 2]
    by_cases c3 : q < 2 * k + 1
    · rw [if_pos c3, decide_eq_false (show ¬ q = 2 * k + 1 by omega), decide_eq_false (show ¬ q = 2 * k + 2 by omega)]
      rfl
    · rw [if_neg c3, Bool.false_or]
  · rw [if_neg (fun z => c z.2.2)]
    refine pb_b_c (pb_b_l g2 2) (fun q hq => ?_)
    by_cases c3 : q < 2 * k + 1
    · rw [if_pos c3]
    · rw [if_neg c3]
      unfold np_oB
      by_cases c4 : p = 0
      · subst c4
        rfl
      · have c5 : ¬ p = 2 * k := fun z => c ((hbe _ (by omega)).mpr ⟨by omega, by omega⟩)
        have c6 : p / 2 < k := by omega
        rw [decide_eq_false (show ¬ q = 1 + 2 * (p / 2) by omega), decide_eq_false (show ¬ q = 2 + 2 * (p / 2) by omega)]
        simp
theorem pb_O2 {L L1 : Nat → Nat → Int64} {s k t : Nat} {m : Nat → Bool} {be one : Int64} (h : pb_O L s m (2 * k + 1)) (ht : t = s + (2 * k + 2)) (h64 : t ≤ 64) (hbe : ∀ j, j < 64 → (nb be j = true ↔ 0 < k ∧ j = s + 2 * k)) (hbo : ∀ j, j < 64 → (nb one j = true ↔ j = s + (2 * k + 1))) (e : ∀ j, j < s + (2 * k + 1) → L1 506 j = L 506 j ∧ L1 507 j = pb_ld L t be one 507 j) (e1 : (∀ v, v < 64 → nb (L1 506 (s + (2 * k + 1))) v = ! m v) ∧ L1 507 (s + (2 * k + 1)) = one) : pb_O L1 s m (2 * k + 2) := by
  have hbo2 : pb_b one s (2 * k + 1 + 1) (fun q => decide (q = 2 * k + 1)) := fun q hq => by
    rw [hbo q hq, decide_eq_true_iff]
    omega
  intro p hp
  rw [show 2 * k + 2 = 2 * k + 1 + 1 by omega] at hp ⊢
  by_cases c1 : p = 2 * k + 1
  · subst c1
    rw [e1.2]
    refine ⟨fun v hv => ?_, pb_b_c hbo2 (fun q hq => ?_)⟩
    · rw [e1.1 v hv]
      unfold np_oM
      rw [if_neg (by omega), if_pos (by omega)]
    · unfold np_oB
      rw [decide_eq_true (show 1 ≤ 2 * k + 1 by omega), Bool.true_and, show (2 * k + 1) / 2 = k by omega, Nat.add_comm 1, decide_eq_false (show ¬ q = 2 + 2 * k by omega), Bool.or_false]
  obtain ⟨z1, z2⟩ := e (s + p) (by omega)
  obtain ⟨g1, g2⟩ := h p (by omega)
  rw [z1, z2]
  refine ⟨g1, ?_⟩
  unfold pb_ld
  by_cases c : nb be (s + p) = true
  · obtain ⟨k0, kp⟩ := (hbe _ (by omega)).mp c
    have ep : p = 2 * k := by omega
    subst ep
    rw [if_pos ⟨rfl, by omega, c⟩]
    refine pb_b_c (pb_b_o2 (pb_b_l g2 1) hbo2) (fun q hq => ?_)
    unfold np_oB
    rw [decide_eq_true (show 1 ≤ 2 * k by omega), Bool.true_and, show 2 * k / 2 = k by omega, Nat.add_comm 1, decide_eq_false (show ¬ q = 2 + 2 * k by omega), Bool.or_false]
    by_cases c3 : q < 2 * k + 1
    · rw [if_pos c3, decide_eq_false (show ¬ q = 2 * k + 1 by omega)]
      rfl
    · rw [if_neg c3, Bool.false_or]
  · rw [if_neg (fun z => c z.2.2)]
    refine pb_b_c (pb_b_l g2 1) (fun q hq => ?_)
    by_cases c3 : q < 2 * k + 1
    · rw [if_pos c3]
    · rw [if_neg c3]
      unfold np_oB
      by_cases c4 : p = 0
      · subst c4
        rfl
      · have c5 : ¬ p = 2 * k := fun z => c ((hbe _ (by omega)).mpr ⟨by omega, by omega⟩)
        have c6 : p / 2 < k := by omega
        rw [decide_eq_false (show ¬ q = 1 + 2 * (p / 2) by omega), decide_eq_false (show ¬ q = 2 + 2 * (p / 2) by omega)]
        simp
/-- its first and last ones -/
theorem pb_oF {s n : Nat} {wb : Bool} {m : Nat → Bool} {x : Int64} (h : ∀ j, j < 64 → (nb x j = true ↔ (0 < n ∧ (j = s + 1 ∨ j = s + 2)) ∨ (n = 0 ∧ wb = true ∧ j = s + 1))) : pb_b x s (1 + nt_S n wb) (np_F (np_occ n wb m)) := fun q hq => by
  rw [h q hq]
  show _ ↔ s ≤ q ∧ q < s + (1 + nt_S n wb) ∧ (decide (q - s = 1) || decide (q - s = 2 ∧ 0 < n)) = true
  rw [Bool.or_eq_true, decide_eq_true_iff, decide_eq_true_iff]
  unfold nt_S
  cases wb with
  | true =>
    rw [if_pos rfl]
    simp only [true_and]
    omega
  | false =>
    rw [if_neg (by decide)]
    simp only [Bool.false_eq_true, false_and, and_false, or_false]
    omega
theorem pb_oL {s n : Nat} {wb : Bool} {m : Nat → Bool} {x : Int64} (h : ∀ j, j < 64 → (nb x j = true ↔ (0 < n ∧ j = s + 2 * n) ∨ (wb = true ∧ j = s + (2 * n + 1)))) : pb_b x s (1 + nt_S n wb) (np_L (np_occ n wb m)) := fun q hq => by
  rw [h q hq]
  show _ ↔ s ≤ q ∧ q < s + (1 + nt_S n wb) ∧ (decide (1 ≤ q - s) && decide ((q - s) / 2 = n)) = true
  rw [Bool.and_eq_true, decide_eq_true_iff, decide_eq_true_iff]
  unfold nt_S
  cases wb with
  | true =>
    rw [if_pos rfl]
    simp only [true_and]
    omega
  | false =>
    rw [if_neg (by decide)]
    simp only [Bool.false_eq_true, false_and, or_false]
    omega
end PC
