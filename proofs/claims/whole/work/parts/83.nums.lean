/-! ===== tokens of numbers ===== -/
/-- the class's own texts -/
def wt_L : List (Nat × List Nat) := [(10, [105, 110, 112, 117, 116]), (12, [108, 97, 116, 99, 104]), (14, [119, 105, 114, 101]), (16, [110, 101, 120, 116]), (18, [115, 105, 103, 110, 97, 108]), (20, [97, 97, 103]), (22, [91, 42, 93]), (24, [91, 43, 93]), (26, [91, 42]), (28, [46, 46]), (30, [91, 45, 62]), (32, [91, 61]), (34, [124, 45, 62]), (36, [124, 61, 62]), (38, [124, 124]), (40, [38, 38]), (42, [45, 62]), (44, [97, 108, 119, 97, 121, 115]), (46, [110, 101, 118, 101, 114]), (48, [117, 110, 116, 105, 108]), (50, [98, 101, 102, 111, 114, 101]), (52, [97, 110, 100])]
def wt_S (T : wv_T) (I : Nat → Nat → Int32) (R : Nat → Nat → Option Nat) : Prop := ∀ i w, pt_look wt_L i = some w → wt_s T I R (1099511627776 + i) (1099511627777 + i) w
theorem wt_A_S {T : wv_T} {I J : Nat → Nat → Int32} {L M : Nat → Nat → Int64} {R : Nat → Nat → Option Nat} (h : wt_A I L J M) (k : wt_S T I R) : wt_S T J R := fun i w hi => wt_A_s h (by omega) (by omega) (k i w hi)
/-- the tokens from p on, by steps -/
def wt_lex (st : Nat → Option wt_t × Nat) (n : Nat) : Nat → Nat → List wt_t
  | 0, _ => [(Int32.ofInt 0, n, Int32.ofInt 0, Int32.ofInt 0, 0)]
  | f + 1, p => if p < n then (match st p with | (some t, p2) => t :: wt_lex st n f p2 | (none, p2) => wt_lex st n f p2) else [(Int32.ofInt 0, n, Int32.ofInt 0, Int32.ofInt 0, 0)]
def nm_run (t : Nat → Int32) : Nat → Nat → Nat
  | _, 0 => 0
  | p, r + 1 => if wt_dig t p = true then nm_run t (p + 1) r + 1 else 0
def nm_val (t : Nat → Int32) (p : Nat) : Nat → Int32
  | 0 => Int32.ofInt 0
  | k + 1 => (Int8.ofInt 10).toInt32 * nm_val t p k + t (p + k) - (Int8.ofInt 48).toInt32
/-- one turn of the numbers' scan -/
def nm_st (t : Nat → Int32) (n p : Nat) : Option wt_t × Nat := if t p = (Int8.ofInt 32).toInt32 then (none, p + 1) else if wt_rd t p [97, 97, 103] = true then (some ((Int8.ofInt 39).toInt32, p, Int32.ofInt 0, Int32.ofInt 0, 0), p + 3) else if 1 ≤ nm_run t p 5 ∧ nm_run t p 5 ≤ 4 then (some ((Int8.ofInt 40).toInt32, p, nm_val t p (nm_run t p 5), nm_val t p (nm_run t p 5), 0), p + nm_run t p 5) else (some (Int32.ofInt 1, p, Int32.ofInt 0, Int32.ofInt 0, 0), n)
theorem nm_run_le (t : Nat → Int32) : ∀ r p, nm_run t p r ≤ r
  | 0, _ => Nat.le_refl _
  | r + 1, p => by
    unfold nm_run
    split
    · have := nm_run_le t r (p + 1)
      omega
    · omega
def wt_h84 (p : Nat) (T : wv_T) (N : Nat) (I : Nat → Nat → Int32) (L : Nat → Nat → Int64) (R : Nat → Nat → Option Nat) : Nat → Option (Nat → wv_P) := fun pc =>
  if pc = 4 then some (fun m lv st T1 N1 I1 L1 R1 nc ns => ∃ k : Nat, lv = [some (.ref 26), some (.int (Int32.ofNat p)), some (.int (nm_val (wt_c I) p k)), some (.int (Int32.ofNat k)), none, none] ∧ st = [] ∧ T1 = T ∧ N1 = N ∧ I1 = I ∧ L1 = L ∧ R1 = R ∧ nc = 0 ∧ ns = 0 ∧ k ≤ 5 ∧ m = 5 - k ∧ k + nm_run (wt_c I) (p + k) (5 - k) = nm_run (wt_c I) p 5)
  else none
def wt_c84 : wv_c1 := fun as T N I L R q => ∃ (ts : List wt_t) (n : Nat) (s : Nat × Option Nat) (p : Nat), as = [.ref 26, .int (Int32.ofNat p)] ∧ wm_T T ∧ wt_K I L ts n s.1 s.2 ∧ ts.length < 401 ∧ p ≤ 400 ∧ ∀ t p2, (if 1 ≤ nm_run (wt_c I) p 5 ∧ nm_run (wt_c I) p 5 ≤ 4 then (some ((Int8.ofInt 40).toInt32, p, nm_val (wt_c I) p (nm_run (wt_c I) p 5), nm_val (wt_c I) p (nm_run (wt_c I) p 5), (0 : Int64)), p + nm_run (wt_c I) p 5) else (some (Int32.ofInt 1, p, Int32.ofInt 0, Int32.ofInt 0, 0), n)) = (some t, p2) → ∀ I1 L1, wt_K I1 L1 (ts ++ [t]) n s.1 s.2 → wt_A I L I1 L1 → q (.inl (some (.int (Int32.ofNat p2)))) T N I1 L1 R 0 0
set_option maxRecDepth 100000 in
theorem wM_84 : ∃ cb ci np, pt_mt 84 = some (7, cb, 4, false, some .int, ci, np) := ⟨_, _, _, rfl⟩
set_option maxRecDepth 100000 in
set_option maxHeartbeats 4000000 in
theorem wt_scanNumber {sc : pt_Sc} {d : Nat} : wv_C wm_fx sc (d + 1 + 1 + 1) 84 wt_c84 := by
  rintro as T N I L R q ⟨ts, n, s, p, rfl, hT, hK, hl, hp, h⟩ w0 HR
  obtain ⟨cb, ci, np, hm⟩ := wM_84
  have hc85 : wv_C wm_fx sc (d + 1 + 1) 85 wt_c85 := wv_C_deep (by omega) (wt_isDigit (d := d))
  have hc26 : wv_C wm_fx sc (d + 1 + 1) 26 wt_c26 := wv_C_deep (by omega) (wt_signAt (d := d))
  have hc32 : wv_C wm_fx sc (d + 1 + 1) 32 wt_c32 := wv_C_deep (by omega) (wt_addBad (d := d))
  have hc28 : wv_C wm_fx sc (d + 1 + 1) 28 wt_c28 := wv_C_deep (by omega) (wt_addCounted (d := d))
  refine wv_meth (hh := none) rfl (sp := wv_sp [(85, wt_c85), (26, wt_c26), (32, wt_c32), (28, wt_c28)]) (hd := wt_h84 p T N I L R) (n := 300) (n1 := 300) hm zc_84 rfl (wv_sp_ok (fun q hq => by
    rcases List.mem_cons.mp hq with h | h
    · rw [h]; exact hc85
    rcases List.mem_cons.mp h with h | h
    · rw [h]; exact hc26
    rcases List.mem_cons.mp h with h | h
    · rw [h]; exact hc32
    rw [List.mem_singleton.mp h]; exact hc28)) ?_ ?_ HR
  · exact ⟨5, 0, rfl, rfl, rfl, rfl, rfl, rfl, rfl, rfl, rfl, Nat.zero_le _, rfl, by rw [Nat.zero_add]; rfl⟩
  · intro pc P hP m lv st T1 N1 I1 L1 R1 nc ns hh
    unfold wt_h84 at hP
    split at hP
    · cases hP
      rename_i hpc
      subst hpc
      obtain ⟨k, rfl, rfl, rfl, rfl, rfl, rfl, rfl, rfl, rfl, hk5, hm, hr⟩ := hh
      have ek := wi_on (n := k) (by omega)
      have e4 : (Int32.ofInt 4).toInt = 4 := rfl
      have e1 : (Int32.ofInt 1).toInt = 1 := rfl
      have hok := wt_K_ok hT hK
      -- behind the loop
      have fin : k = nm_run (wt_c I1) p 5 → (k < 1 ∨ 4 < k → ∀ I2 L2, wt_K I2 L2 (ts ++ [(Int32.ofInt 1, p, Int32.ofInt 0, Int32.ofInt 0, 0)]) n s.1 s.2 → wt_A I1 L1 I2 L2 → q (.inl (some (.int (Int32.ofNat n)))) T1 N1 I2 L2 R1 0 0) ∧ (¬ (k < 1 ∨ 4 < k) → ∀ I2 L2, wt_K I2 L2 (ts ++ [((Int8.ofInt 40).toInt32, p, nm_val (wt_c I1) p k, nm_val (wt_c I1) p k, 0)]) n s.1 s.2 → wt_A I1 L1 I2 L2 → q (.inl (some (.int (Int32.ofNat (p + k))))) T1 N1 I2 L2 R1 0 0) := by
        intro e
        rw [← e] at h
        refine ⟨fun hb => ?_, fun hb => ?_⟩
        · rw [if_neg (by omega)] at h
          exact h _ _ rfl
        · rw [if_pos (by omega)] at h
          exact h _ _ rfl
      refine ⟨fun h1 => ?_, fun h1 => ?_⟩
      · have e5 : k = 5 := by rw [wi_lt, ek, e4] at h1; omega
        have e : k = nm_run (wt_c I1) p 5 := by rw [e5, Nat.sub_self] at hr; rw [← hr, e5]; rfl
        refine ⟨fun h2 => ?_, fun h2 => ?_⟩
        · rw [wi_lt, ek, e1] at h2
          omega
        refine ⟨fun h3 => ?_, fun h3 => ?_⟩
        · rw [wi_le, ek, e4] at h3
          omega
        exact ⟨ts, n, s, p, rfl, hT, hK, hl, hp, (fin e).1 (by omega)⟩
      · have hk4 : k ≤ 4 := by rw [wi_lt, ek, e4] at h1; omega
        have hs : 5 - k = (4 - k) + 1 := by omega
        rw [hs] at hr
        have hr : k + (if wt_dig (wt_c I1) (p + k) = true then nm_run (wt_c I1) (p + k + 1) (4 - k) + 1 else 0) = nm_run (wt_c I1) p 5 := hr
        refine ⟨p + k, congrArg (fun x => [Value.ref 1, Value.int x]) (wi_ona p k), by omega, hok, ?_⟩
        refine ⟨fun h2 => ?_, fun h2 => ?_⟩
        · have hd : wt_dig (wt_c I1) (p + k) = false := by
            cases hx : wt_dig (wt_c I1) (p + k) with
            | false => rfl
            | true => rw [hx] at h2; cases h2
          rw [if_neg (by rw [hd]; decide)] at hr
          have e : k = nm_run (wt_c I1) p 5 := by omega
          refine ⟨fun h3 => ?_, fun h3 => ?_⟩
          · rw [wi_lt, ek, e1] at h3
            exact ⟨ts, n, s, p, rfl, hT, hK, hl, hp, (fin e).1 (by omega)⟩
          rw [wi_lt, ek, e1] at h3
          refine ⟨fun h4 => ?_, fun h4 => ?_⟩
          · exact ⟨ts, n, s, _, _, _, p, k, rfl, hT, hK, hl, hp, (fin e).2 (by omega)⟩
          · rw [wi_le, ek, e4] at h4
            omega
        · have hd : wt_dig (wt_c I1) (p + k) = true := by
            cases hx : wt_dig (wt_c I1) (p + k) with
            | true => rfl
            | false => rw [hx] at h2; exact (h2 rfl).elim
          rw [if_pos hd] at hr
          refine ⟨p + k, congrArg (fun x => [Value.ref 1, Value.int x]) (wi_ona p k), by omega, hok, ?_⟩
          refine ⟨5 - (k + 1), by omega, k + 1, by rw [← wq_4s]; rfl, rfl, rfl, rfl, rfl, rfl, rfl, rfl, rfl, by omega, rfl, ?_⟩
          rw [show 5 - (k + 1) = 4 - k by omega, show p + (k + 1) = p + k + 1 by omega]
          omega
    · cases hP
def wt_h83 (n : Nat) (s : Nat × Option Nat) (T : wv_T) (N : Nat) (I : Nat → Nat → Int32) (L : Nat → Nat → Int64) (R : Nat → Nat → Option Nat) : Nat → Option (Nat → wv_P) := fun pc =>
  if pc = 11 then some (fun m lv st T1 N1 I1 L1 R1 nc ns => ∃ (k p : Nat) (ts : List wt_t), lv = [some (.ref 26), some (.int (Int32.ofNat p)), some (.int (Int32.ofNat k)), none] ∧ st = [] ∧ T1 = T ∧ N1 = N ∧ R1 = R ∧ nc = 0 ∧ ns = 0 ∧ k ≤ 400 ∧ m = 400 - k ∧ p ≤ 410 ∧ wt_K I1 L1 ts n 0 none ∧ wt_A I L I1 L1 ∧ ts.length ≤ k ∧ ts ++ wt_lex (nm_st (wt_c I) n) n (400 - k) p = wt_lex (nm_st (wt_c I) n) n 400 0)
  else none
def wt_c83 : wv_c1 := fun as T N I L R q => ∃ n : Nat, as = [.ref 26] ∧ wm_T T ∧ wt_S T I R ∧ I 1 6 = Int32.ofNat n ∧ n ≤ 400 ∧ ∀ I1 L1, wt_K I1 L1 (wt_lex (nm_st (wt_c I) n) n 400 0) n 0 none → wt_A I L I1 L1 → q (.inl none) T N I1 L1 R 0 0
set_option maxRecDepth 100000 in
theorem wM_83 : ∃ cb ci np, pt_mt 83 = some (7, cb, 3, false, none, ci, np) := ⟨_, _, _, rfl⟩
set_option maxRecDepth 100000 in
set_option maxHeartbeats 4000000 in
theorem wt_scanNums {sc : pt_Sc} {d : Nat} (hf : wt_fv sc) : wv_C wm_fx sc (d + 1 + 1 + 1 + 1 + 1 + 1) 83 wt_c83 := by
  rintro as T N I L R q ⟨n, rfl, hT, hS, h6, hn, h⟩ w0 HR
  obtain ⟨cb, ci, np, hm⟩ := wM_83
  have hc23 : wv_C wm_fx sc (d + 1 + 1 + 1 + 1 + 1) 23 wt_c23 := wv_C_deep (by omega) (wt_restart (d := d))
  have hc24 : wv_C wm_fx sc (d + 1 + 1 + 1 + 1 + 1) 24 wp_c24 := wv_C_deep (by omega) (wp_count (d := d))
  have hc26 : wv_C wm_fx sc (d + 1 + 1 + 1 + 1 + 1) 26 wt_c26 := wv_C_deep (by omega) (wt_signAt (d := d))
  have hc36 : wv_C wm_fx sc (d + 1 + 1 + 1 + 1 + 1) 36 wt_c36 := wv_C_deep (by omega) (wt_reads hf (d := d))
  have hc27 : wv_C wm_fx sc (d + 1 + 1 + 1 + 1 + 1) 27 wt_c27 := wv_C_deep (by omega) (wt_addT (d := d))
  have hc84 : wv_C wm_fx sc (d + 1 + 1 + 1 + 1 + 1) 84 wt_c84 := wv_C_deep (by omega) (wt_scanNumber (d := d))
  have hc47 : wv_C wm_fx sc (d + 1 + 1 + 1 + 1 + 1) 47 wt_c47 := wv_C_deep (by omega) (wt_finish (d := d))
  refine wv_meth (hh := none) rfl (sp := wv_sp [(23, wt_c23), (24, wp_c24), (26, wt_c26), (36, wt_c36), (27, wt_c27), (84, wt_c84), (47, wt_c47)]) (hd := wt_h83 n (0, none) T N I L R) (n := 300) (n1 := 300) hm zc_83 rfl (wv_sp_ok (fun q hq => by
    rcases List.mem_cons.mp hq with h | h
    · rw [h]; exact hc23
    rcases List.mem_cons.mp h with h | h
    · rw [h]; exact hc24
    rcases List.mem_cons.mp h with h | h
    · rw [h]; exact hc26
    rcases List.mem_cons.mp h with h | h
    · rw [h]; exact hc36
    rcases List.mem_cons.mp h with h | h
    · rw [h]; exact hc27
    rcases List.mem_cons.mp h with h | h
    · rw [h]; exact hc84
    rw [List.mem_singleton.mp h]; exact hc47)) ?_ ?_ HR
  · refine ⟨n, rfl, h6, hn, fun I1 hK hA => ?_⟩
    exact ⟨400, 0, 0, [], rfl, rfl, rfl, rfl, rfl, rfl, rfl, Nat.zero_le _, rfl, Nat.zero_le _, hK, hA, Nat.le_refl _, rfl⟩
  · intro pc P hP m lv st T1 N1 I1 L1 R1 nc ns hh
    unfold wt_h83 at hP
    split at hP
    · cases hP
      rename_i hpc
      subst hpc
      obtain ⟨k, p, ts, rfl, rfl, rfl, rfl, rfl, rfl, rfl, hk, hm, hp, hK, hA, hl, he⟩ := hh
      have ek := wi_on (n := k) (by omega)
      have ep := wi_on (n := p) (by omega)
      have en := wi_on (n := n) (by omega)
      have e400 : ((Int16.ofInt 400).toInt32).toInt = 400 := rfl
      have hok := wt_K_ok hT hK
      have hcc : wt_c I1 = wt_c I := wt_A_c hA
      have hfin : wt_lex (nm_st (wt_c I) n) n (400 - k) p = [(Int32.ofInt 0, n, Int32.ofInt 0, Int32.ofInt 0, 0)] → ∀ I2 L2, wt_K I2 L2 (ts ++ [(Int32.ofInt 0, n, Int32.ofInt 0, Int32.ofInt 0, 0)]) n 0 none → wt_A I1 L1 I2 L2 → q (.inl none) T1 N1 I2 L2 R1 0 0 := by
        intro e I2 L2 a b
        rw [e] at he
        rw [he] at a
        exact h I2 L2 a (wt_A_tr hA b)
      refine ⟨fun h1 => ?_, fun h1 => ?_⟩
      · have e : k = 400 := by rw [wi_le, ek, e400] at h1; omega
        exact ⟨ts, n, (0, none), rfl, hT, hK, by omega, hfin (by rw [e]; rfl)⟩
      · have hk4 : k < 400 := by rw [wi_le, ek, e400] at h1; omega
        have hs : 400 - k = (400 - (k + 1)) + 1 := by omega
        refine ⟨rfl, ?_⟩
        rw [wt_A_6 hA, h6]
        refine ⟨fun h2 => ?_, fun h2 => ?_⟩
        · have hpn : n ≤ p := by rw [wi_le, ep, en] at h2; omega
          refine ⟨ts, n, (0, none), rfl, hT, hK, by omega, hfin ?_⟩
          rw [hs]
          unfold wt_lex
          rw [if_neg (by omega)]
        · have hpn : p < n := by rw [wi_le, ep, en] at h2; omega
          rw [hs] at he
          unfold wt_lex at he
          rw [if_pos hpn] at he
          refine ⟨p, rfl, by omega, hok, ?_⟩
          rw [hcc]
          -- on with the next turn
          have go : ∀ (I2 : Nat → Nat → Int32) (L2 : Nat → Nat → Int64) (p2 : Nat) (ts2 : List wt_t), p2 ≤ 410 → wt_K I2 L2 ts2 n 0 none → wt_A I1 L1 I2 L2 → ts2.length ≤ k + 1 → ts2 ++ wt_lex (nm_st (wt_c I) n) n (400 - (k + 1)) p2 = wt_lex (nm_st (wt_c I) n) n 400 0 → ∃ m1, m1 < m ∧ ∃ (k1 p1 : Nat) (ts1 : List wt_t), [some (Value.ref 26), some (.int (Int32.ofNat p2)), some (.int (Int32.ofNat k + Int32.ofInt 1)), none] = [some (.ref 26), some (.int (Int32.ofNat p1)), some (.int (Int32.ofNat k1)), none] ∧ ([] : List Value) = [] ∧ T1 = T1 ∧ N1 = N1 ∧ R1 = R1 ∧ 0 = 0 ∧ 0 = 0 ∧ k1 ≤ 400 ∧ m1 = 400 - k1 ∧ p1 ≤ 410 ∧ wt_K I2 L2 ts1 n 0 none ∧ wt_A I L I2 L2 ∧ ts1.length ≤ k1 ∧ ts1 ++ wt_lex (nm_st (wt_c I) n) n (400 - k1) p1 = wt_lex (nm_st (wt_c I) n) n 400 0 := by
            intro I2 L2 p2 ts2 g1 g2 g3 g4 g5
            exact ⟨400 - (k + 1), by omega, k + 1, p2, ts2, by rw [wq_4s], rfl, rfl, rfl, rfl, rfl, rfl, by omega, rfl, g1, g2, wt_A_tr hA g3, g4, g5⟩
          refine ⟨fun h3 => ?_, fun h3 => ?_⟩
          · refine ⟨p, 1099511627776 + 20, 1099511627777 + 20, [97, 97, 103], rfl, by omega, hok, wt_A_S hA hS 20 _ rfl, ?_⟩
            rw [hcc]
            refine ⟨fun h4 => ?_, fun h4 => ?_⟩
            · have hx : ¬ wt_rd (wt_c I) p [97, 97, 103] = true := fun z => by rw [z] at h4; cases h4
              refine ⟨ts, n, (0, none), p, rfl, hT, hK, by omega, by omega, ?_⟩
              rw [hcc]
              intro t p2 ht I2 L2 a b
              have hst : nm_st (wt_c I) n p = (some t, p2) := by
                unfold nm_st
                rw [if_neg h3, if_neg hx]
                exact ht
              rw [hst] at he
              have hp2 : p2 ≤ 410 := by
                have := nm_run_le (wt_c I) 5 p
                split at ht
                · cases ht
                  omega
                · cases ht
                  omega
              exact go I2 L2 p2 (ts ++ [t]) hp2 a b (by rw [List.length_append]; simp only [List.length_singleton]; omega) (by rw [List.append_assoc]; exact he)
            · have hx : wt_rd (wt_c I) p [97, 97, 103] = true := by
                cases hy : wt_rd (wt_c I) p [97, 97, 103] with
                | true => rfl
                | false => rw [hy] at h4; exact (h4 rfl).elim
              have hst : nm_st (wt_c I) n p = (some ((Int8.ofInt 39).toInt32, p, Int32.ofInt 0, Int32.ofInt 0, 0), p + 3) := by
                unfold nm_st
                rw [if_neg h3, if_pos hx]
              rw [hst] at he
              refine ⟨ts, n, (0, none), _, p, 3, rfl, hT, hK, by omega, by omega, fun I2 L2 a b => ?_⟩
              exact go I2 L2 (p + 3) _ (by omega) a b (by rw [List.length_append]; simp only [List.length_singleton]; omega) (by rw [List.append_assoc]; exact he)
          · have hst : nm_st (wt_c I) n p = (none, p + 1) := by
              unfold nm_st
              rw [if_pos (Decidable.not_not.mp h3)]
            rw [hst] at he
            have g := go I1 L1 (p + 1) ts (by omega) hK (wt_A_id _ _) (by omega) he
            rw [← wq_4s p] at g
            exact g
    · cases hP
