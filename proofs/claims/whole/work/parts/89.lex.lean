/-! ===== tokens, one after another ===== -/
/-- every turn goes on -/
def wt_pg (st : Nat → Option wt_t × Nat) (n : Nat) : Prop := ∀ p, p < n → p < (st p).2
theorem wt_lex_f {st : Nat → Option wt_t × Nat} {n : Nat} (h : wt_pg st n) : ∀ f g p, n ≤ p + f → n ≤ p + g → wt_lex st n f p = wt_lex st n g p
  | 0, g, p, hf, hg => by
    cases g with
    | zero => rfl
    | succ g =>
      unfold wt_lex
      rw [if_neg (by omega)]
  | f + 1, g, p, hf, hg => by
    by_cases hp : p < n
    · cases g with
      | zero => omega
      | succ g =>
        unfold wt_lex
        rw [if_pos hp, if_pos hp]
        have hpg := h p hp
        generalize st p = x at hpg
        obtain ⟨o, p2⟩ := x
        have hpg : p < p2 := hpg
        have e := wt_lex_f h f g p2 (by omega) (by omega)
        cases o with
        | none => exact e
        | some t => exact congrArg (fun l => t :: l) e
    · cases g with
      | zero =>
        unfold wt_lex
        rw [if_neg hp]
      | succ g =>
        unfold wt_lex
        rw [if_neg hp, if_neg hp]
def wt_lx (st : Nat → Option wt_t × Nat) (n p : Nat) : List wt_t := wt_lex st n (n - p) p
def wt_E (n : Nat) : wt_t := (Int32.ofInt 0, n, Int32.ofInt 0, Int32.ofInt 0, 0)
theorem wt_lx_end {st : Nat → Option wt_t × Nat} {n p : Nat} (h : n ≤ p) : wt_lx st n p = [wt_E n] := by
  unfold wt_lx
  rw [show n - p = 0 by omega]
  rfl
theorem wt_lx_some {st : Nat → Option wt_t × Nat} {n p p2 : Nat} {t : wt_t} (hg : wt_pg st n) (h : p < n) (e : st p = (some t, p2)) : wt_lx st n p = t :: wt_lx st n p2 := by
  unfold wt_lx
  have hp := hg p h
  rw [e] at hp
  have hp : p < p2 := hp
  obtain ⟨f, hf⟩ : ∃ f, n - p = f + 1 := ⟨n - p - 1, by omega⟩
  rw [hf]
  show (if p < n then (match st p with | (some t, p2) => t :: wt_lex st n f p2 | (none, p2) => wt_lex st n f p2) else _) = _
  rw [if_pos h, e]
  show t :: wt_lex st n f p2 = _
  rw [wt_lex_f hg f (n - p2) p2 (by omega) (by omega)]
theorem wt_lx_none {st : Nat → Option wt_t × Nat} {n p p2 : Nat} (hg : wt_pg st n) (h : p < n) (e : st p = (none, p2)) : wt_lx st n p = wt_lx st n p2 := by
  unfold wt_lx
  have hp := hg p h
  rw [e] at hp
  have hp : p < p2 := hp
  obtain ⟨f, hf⟩ : ∃ f, n - p = f + 1 := ⟨n - p - 1, by omega⟩
  rw [hf]
  show (if p < n then (match st p with | (some t, p2) => t :: wt_lex st n f p2 | (none, p2) => wt_lex st n f p2) else _) = _
  rw [if_pos h, e]
  show wt_lex st n f p2 = _
  rw [wt_lex_f hg f (n - p2) p2 (by omega) (by omega)]
/-- over blanks -/
theorem wt_lx_sk {st : Nat → Option wt_t × Nat} {n : Nat} {t : Nat → Int32} (hg : wt_pg st n) (hb : ∀ p, p < n → t p = (Int8.ofInt 32).toInt32 → st p = (none, p + 1)) (ht : ∀ p, n ≤ p → t p = 0) : ∀ k e, (∀ j, e ≤ j → j < e + k → t j = (Int8.ofInt 32).toInt32) → wt_lx st n e = wt_lx st n (e + k)
  | 0, e, _ => rfl
  | k + 1, e, h => by
    have h0 := h e (Nat.le_refl _) (by omega)
    have he : e < n := by
      by_cases he : e < n
      · exact he
      · rw [ht e (by omega)] at h0
        exact absurd h0 (by decide)
    rw [wt_lx_none hg he (hb e he h0), wt_lx_sk hg hb ht k (e + 1) (fun j a b => h j (by omega) (by omega))]
    rw [show e + 1 + k = e + (k + 1) by omega]
/-- a text of signs: nothing behind its end, no sign 0 -/
def wt_tx (t : Nat → Int32) (n : Nat) : Prop := (∀ p, n ≤ p → t p = 0) ∧ ∀ p, p < n → ¬ t p = 0
theorem nm_pg {t : Nat → Int32} {n : Nat} : wt_pg (nm_st t n) n := by
  intro p hp
  unfold nm_st
  split
  · exact Nat.lt_succ_self p
  · split
    · show p < p + 3
      omega
    · split
      · show p < p + nm_run t p 5
        omega
      · exact hp
theorem nm_blank {t : Nat → Int32} {n : Nat} : ∀ p, p < n → t p = (Int8.ofInt 32).toInt32 → nm_st t n p = (none, p + 1) := by
  intro p _ h
  unfold nm_st
  rw [if_pos h]
theorem nm_run_dg {t : Nat → Int32} : ∀ r p d, wt_dg t p d → nm_run t p r = min d r
  | 0, p, d, _ => by show 0 = _; omega
  | r + 1, p, d, h => by
    unfold nm_run
    cases d with
    | zero =>
      have := h.2
      rw [Nat.add_zero] at this
      rw [if_neg (by rw [this]; decide)]
      omega
    | succ d =>
      have h0 := h.1 0 (by omega)
      rw [Nat.add_zero] at h0
      rw [if_pos h0, nm_run_dg r (p + 1) d ⟨fun k hk => by
        have := h.1 (k + 1) (by omega)
        rw [show p + 1 + k = p + (k + 1) by omega]
        exact this, by
        have := h.2
        rw [show p + 1 + d = p + (d + 1) by omega]
        exact this⟩]
      omega
theorem tk_drop {ts : List wt_t} {a : Nat} {x : wt_t} {l : List wt_t} (h : ts.drop a = x :: l) : ts[a]? = some x ∧ ts.drop (a + 1) = l := by
  have h1 : (ts.drop a)[0]? = some x := by rw [h]; rfl
  rw [List.getElem?_drop, Nat.add_zero] at h1
  refine ⟨h1, ?_⟩
  rw [← List.drop_drop, h]
  rfl
/-- the reference stands where the tokens do -/
def wp_Z (st : Nat → Option wt_t × Nat) (ts : List wt_t) (n : Nat) (s : wt_q) (I1 : Nat → Nat → Int32) : Prop := match s.2 with
  | none => ∃ e, I1 460 5 = Int32.ofNat e ∧ e ≤ n ∧ I1 460 8 = Int32.ofInt (-1) ∧ ts.drop s.1 = wt_lx st n e
  | some z => I1 460 8 = Int32.ofNat z ∧ z ≤ 400 ∧ ∃ e, I1 460 5 = Int32.ofNat e ∧ e ≤ 400
theorem nm_rd_bad {ts : List wt_t} {n a : Nat} {lo hi : Int32} {x : wt_t} (h : ts[a]? = some x) (hb : ¬ x.1 = (Int8.ofInt 40).toInt32 ∨ x.2.2.1 < lo ∨ hi < x.2.2.1) : (nm_rd ts n lo hi (a, none)).2 = (a, some x.2.1) := by
  have hl : tk_low ts a = x.2.2.1 := by unfold tk_low; rw [h]
  have hp : tk_place ts n a = x.2.1 := by unfold tk_place; rw [h]
  have hn : tk_now ts (a, none) = x.1 := by unfold tk_now; rw [h]
  unfold nm_rd
  show tk_take ts n (Int8.ofInt 40).toInt32 (if tk_low ts a < lo ∨ hi < tk_low ts a then tk_ref ts n (a, none) else (a, none)) = _
  have hr : tk_ref ts n (a, none) = (a, some x.2.1) := by
    unfold tk_ref tk_refAt
    show (a, some (tk_place ts n a)) = _
    rw [hp]
  have ht2 : ∀ z, tk_take ts n (Int8.ofInt 40).toInt32 (a, some z) = (a, some z) := by
    intro z
    unfold tk_take
    rw [if_neg (by show ¬ Int32.ofInt 2 = (Int8.ofInt 40).toInt32; decide)]
    rfl
  rw [hl, hr]
  by_cases hc : x.2.2.1 < lo ∨ hi < x.2.2.1
  · rw [if_pos hc]
    exact ht2 _
  · rw [if_neg hc]
    have hk : ¬ x.1 = (Int8.ofInt 40).toInt32 := by
      rcases hb with hb | hb
      · exact hb
      · exact (hc hb).elim
    unfold tk_take
    rw [hn, if_neg hk]
    exact hr
theorem nm_rd_good {ts : List wt_t} {n a : Nat} {lo hi : Int32} {x : wt_t} (h : ts[a]? = some x) (hk : x.1 = (Int8.ofInt 40).toInt32) (hb : ¬ (x.2.2.1 < lo ∨ hi < x.2.2.1)) : nm_rd ts n lo hi (a, none) = (x.2.2.1, (a + 1, none)) := by
  have hl : tk_low ts a = x.2.2.1 := by unfold tk_low; rw [h]
  have hn : tk_now ts (a, none) = x.1 := by unfold tk_now; rw [h]
  have e : tk_take ts n (Int8.ofInt 40).toInt32 (a, none) = (a + 1, none) := by
    unfold tk_take
    rw [hn, if_pos hk]
    unfold tk_adv
    rw [h]
  unfold nm_rd
  show ((if (tk_take ts n (Int8.ofInt 40).toInt32 (if tk_low ts a < lo ∨ hi < tk_low ts a then tk_ref ts n (a, none) else (a, none))).2.isSome = true then lo else tk_low ts a), tk_take ts n (Int8.ofInt 40).toInt32 (if tk_low ts a < lo ∨ hi < tk_low ts a then tk_ref ts n (a, none) else (a, none))) = _
  rw [hl, if_neg hb, e]
  rfl
/-- what stands at the next place that is no blank -/
theorem nm_head {t : Nat → Int32} {n e p d : Nat} (ht : wt_tx t n) (he : e ≤ n) (hs : wt_sk t e p) (hd : wt_dg t p d) : p ≤ n ∧ ∃ x l, wt_lx (nm_st t n) n e = x :: l ∧ x.2.1 = p ∧ ((1 ≤ d ∧ d ≤ 4 ∧ x.1 = (Int8.ofInt 40).toInt32 ∧ x.2.2.1 = nm_val t p (min d 4) ∧ l = wt_lx (nm_st t n) n (p + d) ∧ p + d ≤ n) ∨ ((d = 0 ∨ 4 < d) ∧ ¬ x.1 = (Int8.ofInt 40).toInt32 ∧ (x.1 = Int32.ofInt 0 ↔ p = n) ∧ (x.1 = (Int8.ofInt 39).toInt32 ↔ wt_rd t p [97, 97, 103] = true) ∧ (wt_rd t p [97, 97, 103] = true → l = wt_lx (nm_st t n) n (p + 3) ∧ p + 3 ≤ n))) := by
  obtain ⟨h1, h2, h3⟩ := hs
  have hpn : p ≤ n := by
    by_cases hp : p ≤ n
    · exact hp
    · have := h2 n he (by omega)
      rw [ht.1 n (Nat.le_refl _)] at this
      exact absurd this (by decide)
  refine ⟨hpn, ?_⟩
  have e1 := wt_lx_sk (st := nm_st t n) nm_pg nm_blank ht.1 (p - e) e (fun j a b => h2 j a (by omega))
  rw [show e + (p - e) = p by omega] at e1
  rw [e1]
  have hrun := nm_run_dg 5 p d hd
  have hrd : wt_rd t p [97, 97, 103] = true → t p = Int32.ofNat 97 ∧ t (p + 1) = Int32.ofNat 97 ∧ t (p + 2) = Int32.ofNat 103 := by
    intro h
    simp only [wt_rd, Bool.and_eq_true, decide_eq_true_eq, Bool.and_true] at h
    exact ⟨h.1, h.2.1, h.2.2⟩
  by_cases hp : p < n
  · by_cases ha : wt_rd t p [97, 97, 103] = true
    · have hst : nm_st t n p = (some ((Int8.ofInt 39).toInt32, p, Int32.ofInt 0, Int32.ofInt 0, 0), p + 3) := by
        unfold nm_st
        rw [if_neg h3, if_pos ha]
      obtain ⟨r1, r2, r3⟩ := hrd ha
      have hd0 : d = 0 := by
        cases d with
        | zero => rfl
        | succ d =>
          have h0 := hd.1 0 (by omega)
          rw [Nat.add_zero] at h0
          unfold wt_dig at h0
          rw [r1] at h0
          exact absurd h0 (by decide)
      have hp3 : p + 3 ≤ n := by
        by_cases hc : p + 3 ≤ n
        · exact hc
        · rw [ht.1 (p + 2) (by omega)] at r3
          exact absurd r3 (by decide)
      refine ⟨_, _, wt_lx_some nm_pg hp hst, rfl, Or.inr ⟨Or.inl hd0, (show ¬ (Int8.ofInt 39).toInt32 = (Int8.ofInt 40).toInt32 by decide), ⟨fun z => absurd (show (Int8.ofInt 39).toInt32 = Int32.ofInt 0 from z) (by decide), fun z => by omega⟩, ⟨fun _ => ha, fun _ => rfl⟩, fun _ => ⟨rfl, hp3⟩⟩⟩
    · by_cases hc : 1 ≤ d ∧ d ≤ 4
      · have hr : nm_run t p 5 = d := by rw [hrun]; omega
        have hst : nm_st t n p = (some ((Int8.ofInt 40).toInt32, p, nm_val t p d, nm_val t p d, 0), p + d) := by
          unfold nm_st
          rw [if_neg h3, if_neg ha, hr, if_pos hc]
        have hpd : p + d ≤ n := by
          by_cases hx : p + d ≤ n
          · exact hx
          · have h0 := hd.1 (d - 1) (by omega)
            unfold wt_dig at h0
            rw [ht.1 (p + (d - 1)) (by omega)] at h0
            exact absurd h0 (by decide)
        exact ⟨_, _, wt_lx_some nm_pg hp hst, rfl, Or.inl ⟨hc.1, hc.2, rfl, by rw [show min d 4 = d by omega], rfl, hpd⟩⟩
      · have hst : nm_st t n p = (some (Int32.ofInt 1, p, Int32.ofInt 0, Int32.ofInt 0, 0), n) := by
          unfold nm_st
          rw [if_neg h3, if_neg ha, hrun, if_neg (by omega)]
        refine ⟨_, _, wt_lx_some nm_pg hp hst, rfl, Or.inr ⟨by omega, ?_, ⟨fun z => ?_, fun z => by omega⟩, ⟨fun z => ?_, fun z => (ha z).elim⟩, fun z => (ha z).elim⟩⟩
        · show ¬ Int32.ofInt 1 = (Int8.ofInt 40).toInt32
          decide
        · have z : Int32.ofInt 1 = Int32.ofInt 0 := z
          exact absurd z (by decide)
        · have z : Int32.ofInt 1 = (Int8.ofInt 39).toInt32 := z
          exact absurd z (by decide)
  · have hpe : p = n := by omega
    have h0 := ht.1 p (by omega)
    have hd0 : d = 0 := by
      cases d with
      | zero => rfl
      | succ d =>
        have h9 := hd.1 0 (by omega)
        rw [Nat.add_zero] at h9
        unfold wt_dig at h9
        rw [h0] at h9
        exact absurd h9 (by decide)
    have ha : ¬ wt_rd t p [97, 97, 103] = true := fun z => by
      have := (hrd z).1
      rw [h0] at this
      exact absurd this (by decide)
    refine ⟨wt_E n, [], wt_lx_end (by omega), hpe.symm, Or.inr ⟨Or.inl hd0, ?_, ⟨fun _ => hpe, fun _ => rfl⟩, ⟨fun z => ?_, fun z => (ha z).elim⟩, fun z => (ha z).elim⟩⟩
    · show ¬ Int32.ofInt 0 = (Int8.ofInt 40).toInt32
      decide
    · have z : Int32.ofInt 0 = (Int8.ofInt 39).toInt32 := z
      exact absurd z (by decide)
