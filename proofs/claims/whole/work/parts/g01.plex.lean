/-! ===== a property text, scanned ===== -/
/-- a sign that begins no token; a token; a token with a count -/
def pr_b (n p : Nat) : Option wt_t × Nat := (some (Int32.ofInt 1, p, Int32.ofInt 0, Int32.ofInt 0, 0), n)
def pr_t (k : Int32) (p z : Nat) : Option wt_t × Nat := (some (k, p, Int32.ofInt 0, Int32.ofInt 0, 0), p + z)
def pr_cnt (t : Nat → Int32) (n : Nat) (k : Int32) (p a : Nat) : Option wt_t × Nat := if wt_dig t (p + a) = true ∧ t (p + a + 1) = (Int8.ofInt 93).toInt32 then (some (k, p, t (p + a) - (Int8.ofInt 48).toInt32, t (p + a) - (Int8.ofInt 48).toInt32, 0), p + (a + 2)) else pr_b n p
def pr_rng (t : Nat → Int32) (n p : Nat) : Option wt_t × Nat := if wt_dig t (p + 2) = true ∧ wt_dig t (p + 5) = true ∧ t (p + 6) = (Int8.ofInt 93).toInt32 then (some ((Int8.ofInt 22).toInt32, p, t (p + 2) - (Int8.ofInt 48).toInt32, t (p + 5) - (Int8.ofInt 48).toInt32, 0), p + 7) else pr_b n p
def pr_brk (t : Nat → Int32) (n p : Nat) : Option wt_t × Nat := if wt_rd t p [91, 42, 93] = true then pr_t ((Int8.ofInt 20).toInt32) p 3 else if wt_rd t p [91, 43, 93] = true then pr_t ((Int8.ofInt 21).toInt32) p 3 else if wt_rd t p [91, 42] = true then (if wt_rd t (p + 3) [46, 46] = true then pr_rng t n p else pr_cnt t n ((Int8.ofInt 22).toInt32) p 2) else if wt_rd t p [91, 45, 62] = true then pr_cnt t n ((Int8.ofInt 23).toInt32) p 3 else if wt_rd t p [91, 61] = true then pr_cnt t n ((Int8.ofInt 24).toInt32) p 2 else pr_cnt t n ((Int8.ofInt 25).toInt32) p 1
def pr_bar (t : Nat → Int32) (n p : Nat) : Option wt_t × Nat := if wt_rd t p [124, 45, 62] = true then pr_t ((Int8.ofInt 18).toInt32) p 3 else if wt_rd t p [124, 61, 62] = true then pr_t ((Int8.ofInt 19).toInt32) p 3 else if wt_rd t p [124, 124] = true then pr_t ((Int8.ofInt 11).toInt32) p 2 else pr_t ((Int8.ofInt 8).toInt32) p 1
def pr_wk (t : Nat → Int32) (p z : Nat) : Int32 := if (decide (z = 6) && wt_rd t p [97, 108, 119, 97, 121, 115]) = true then (Int8.ofInt 26).toInt32 else if (decide (z = 5) && wt_rd t p [110, 101, 118, 101, 114]) = true then (Int8.ofInt 27).toInt32 else if (decide (z = 4) && wt_rd t p [110, 101, 120, 116]) = true then (Int8.ofInt 28).toInt32 else if (decide (z = 5) && wt_rd t p [117, 110, 116, 105, 108]) = true then (Int8.ofInt 29).toInt32 else if (decide (z = 6) && wt_rd t p [98, 101, 102, 111, 114, 101]) = true then (Int8.ofInt 30).toInt32 else if (decide (z = 3) && wt_rd t p [97, 110, 100]) = true then (Int8.ofInt 31).toInt32 else Int32.ofInt 1
def pr_word (t : Nat → Int32) (n p : Nat) : Option wt_t × Nat := if wt_wl t p 400 = 1 ∧ ¬ (Int8.ofInt 6).toInt32 ≤ t p - (Int8.ofInt 97).toInt32 then (some (Int32.ofInt 3, p, t p - (Int8.ofInt 97).toInt32, t p - (Int8.ofInt 97).toInt32, 0), p + wt_wl t p 400) else if pr_wk t p (wt_wl t p 400) = Int32.ofInt 1 then pr_b n p else pr_t (pr_wk t p (wt_wl t p 400)) p (wt_wl t p 400)
def pr_k (x : Int) : Option Int32 := if x = 33 then some ((Int8.ofInt 6).toInt32) else if x = 40 then some ((Int8.ofInt 15).toInt32) else if x = 41 then some ((Int8.ofInt 16).toInt32) else if x = 48 then some (Int32.ofInt 4) else if x = 49 then some (Int32.ofInt 5) else if x = 58 then some ((Int8.ofInt 10).toInt32) else if x = 59 then some ((Int8.ofInt 9).toInt32) else if x = 123 then some ((Int8.ofInt 13).toInt32) else if x = 125 then some ((Int8.ofInt 14).toInt32) else none
/-- one turn of a property's scan -/
def pr_st (t : Nat → Int32) (n p : Nat) : Option wt_t × Nat := if (t p).toInt = 32 then (none, p + 1) else if (t p).toInt = 38 then (if wt_rd t p [38, 38] = true then pr_t ((Int8.ofInt 12).toInt32) p 2 else pr_t ((Int8.ofInt 7).toInt32) p 1) else if (t p).toInt = 45 then (if wt_rd t p [45, 62] = true then pr_t ((Int8.ofInt 17).toInt32) p 2 else pr_b n p) else if (t p).toInt = 91 then pr_brk t n p else if (t p).toInt = 124 then pr_bar t n p else (match pr_k (t p).toInt with
  | some k => pr_t k p 1
  | none => if wt_sml t p = true then pr_word t n p else pr_b n p)
def pr_c107 : wv_c1 := fun as T N I L R q => ∃ (ts : List wt_t) (n p a : Nat) (k : Int32), as = [.ref 8, .int k, .int (Int32.ofNat p), .int (Int32.ofNat a)] ∧ wm_T T ∧ wt_S T I R ∧ wt_K I L ts n 0 none ∧ ts.length < 400 ∧ p < n ∧ a ≤ 10 ∧ ∀ I1 L1, wt_K I1 L1 (ts ++ (pr_cnt (wt_c I) n k p a).1.toList) n 0 none → wt_A I L I1 L1 → q (.inl (some (.int (Int32.ofNat (pr_cnt (wt_c I) n k p a).2)))) T N I1 L1 R 0 0
set_option maxRecDepth 100000 in
theorem wM_107 : ∃ cb ci np, pt_mt 107 = some (3, cb, 5, false, some .int, ci, np) := ⟨_, _, _, rfl⟩
set_option maxRecDepth 100000 in
set_option maxHeartbeats 4000000 in
theorem pr_scanCount {sc : pt_Sc} {d : Nat} : wv_C wm_fx sc (d + 1 + 1 + 1) 107 pr_c107 := by
  rintro as T N I L R q ⟨ts, n, p, a, k, rfl, hT, hS, hK, hl, hpn, ha, h⟩ w0 HR
  obtain ⟨cb, ci, np, hm⟩ := wM_107
  have hc26 : wv_C wm_fx sc (d + 1 + 1) 26 wt_c26 := wv_C_deep (by omega) (wt_signAt (d := d))
  have hc28 : wv_C wm_fx sc (d + 1 + 1) 28 wt_c28 := wv_C_deep (by omega) (wt_addCounted (d := d))
  have hc32 : wv_C wm_fx sc (d + 1 + 1) 32 wt_c32 := wv_C_deep (by omega) (wt_addBad (d := d))
  have hc85 : wv_C wm_fx sc (d + 1 + 1) 85 wt_c85 := wv_C_deep (by omega) (wt_isDigit (d := d))
  refine wv_meth (hh := none) rfl (sp := wv_sp [(26, wt_c26), (28, wt_c28), (32, wt_c32), (85, wt_c85)]) (hd := fun _ => none) (n := 0) (n1 := 300) hm zc_107 rfl (wv_sp_ok (fun q hq => by
    rcases List.mem_cons.mp hq with h | h
    · rw [h]; exact hc26
    rcases List.mem_cons.mp h with h | h
    · rw [h]; exact hc28
    rcases List.mem_cons.mp h with h | h
    · rw [h]; exact hc32
    rw [List.mem_singleton.mp h]; exact hc85)) ?_ (fun pc P h => by cases h) HR
  have hn4 := hK.2.1
  have hok := wt_K_ok hT hK

  have ea := wi_ona p a
  have ea1 : Int32.ofNat p + Int32.ofNat a + Int32.ofInt 1 = Int32.ofNat (p + a + 1) := by rw [ea]; exact wi_ona (p + a) 1
  refine ⟨p + a, congrArg (fun x => [Value.ref 1, Value.int x]) ea, by omega, hok, ?_⟩
  refine ⟨fun y => ?_, fun y => ?_⟩
  · rw [show pr_cnt (wt_c I) n k p a = pr_b n p from if_neg (fun z => by rw [wp_b0 y] at z; cases z.1)] at h
    exact ⟨ts, n, (0, none), p, rfl, hT, hK, by omega, by omega, fun I1 L1 a b => h I1 L1 a b⟩
  · refine ⟨p + a + 1, congrArg (fun x => [Value.ref 1, Value.int x]) ea1, by omega, hok, ?_⟩
    refine ⟨fun y2 => ?_, fun y2 => ?_⟩
    · rw [show pr_cnt (wt_c I) n k p a = (some (k, p, wt_c I (p + a) - (Int8.ofInt 48).toInt32, wt_c I (p + a) - (Int8.ofInt 48).toInt32, 0), p + (a + 2)) from if_pos ⟨wp_b1 y, y2⟩] at h
      refine ⟨p + a, congrArg (fun x => [Value.ref 1, Value.int x]) ea, by omega, hok, ?_⟩
      exact ⟨ts, n, (0, none), k, _, _, p, a + 2, congrArg (fun x => [Value.ref 1, Value.int k, Value.int (Int32.ofNat p), Value.int x, Value.int (wt_c I (p + a) - (Int8.ofInt 48).toInt32), Value.int (wt_c I (p + a) - (Int8.ofInt 48).toInt32)]) (wi_ona a 2), hT, hK, by omega, by omega, fun I1 L1 a b => h I1 L1 a b⟩
    · rw [show pr_cnt (wt_c I) n k p a = pr_b n p from if_neg (fun z => y2 z.2)] at h
      exact ⟨ts, n, (0, none), p, rfl, hT, hK, by omega, by omega, fun I1 L1 a b => h I1 L1 a b⟩
set_option maxRecDepth 100000 in
theorem wM_106 : ∃ cb ci np, pt_mt 106 = some (3, cb, 4, false, some .int, ci, np) := ⟨_, _, _, rfl⟩
set_option maxRecDepth 100000 in
set_option maxHeartbeats 4000000 in
theorem pr_scanRange {sc : pt_Sc} {d : Nat} : wv_C wm_fx sc (d + 1 + 1 + 1) 106 (wt_one 8 pr_rng) := by
  rintro as T N I L R q ⟨ts, n, p, rfl, hT, hS, hK, hl, hpn, h⟩ w0 HR
  obtain ⟨cb, ci, np, hm⟩ := wM_106
  have hc26 : wv_C wm_fx sc (d + 1 + 1) 26 wt_c26 := wv_C_deep (by omega) (wt_signAt (d := d))
  have hc28 : wv_C wm_fx sc (d + 1 + 1) 28 wt_c28 := wv_C_deep (by omega) (wt_addCounted (d := d))
  have hc32 : wv_C wm_fx sc (d + 1 + 1) 32 wt_c32 := wv_C_deep (by omega) (wt_addBad (d := d))
  have hc85 : wv_C wm_fx sc (d + 1 + 1) 85 wt_c85 := wv_C_deep (by omega) (wt_isDigit (d := d))
  refine wv_meth (hh := none) rfl (sp := wv_sp [(26, wt_c26), (28, wt_c28), (32, wt_c32), (85, wt_c85)]) (hd := fun _ => none) (n := 0) (n1 := 300) hm zc_106 rfl (wv_sp_ok (fun q hq => by
    rcases List.mem_cons.mp hq with h | h
    · rw [h]; exact hc26
    rcases List.mem_cons.mp h with h | h
    · rw [h]; exact hc28
    rcases List.mem_cons.mp h with h | h
    · rw [h]; exact hc32
    rw [List.mem_singleton.mp h]; exact hc85)) ?_ (fun pc P h => by cases h) HR
  have hn4 := hK.2.1
  have hok := wt_K_ok hT hK

  have e2 : Int32.ofNat p + Int32.ofInt 2 = Int32.ofNat (p + 2) := wi_ona p 2
  have e5 : Int32.ofNat p + Int32.ofInt 5 = Int32.ofNat (p + 5) := wi_ona p 5
  have e6 : Int32.ofNat p + (Int8.ofInt 6).toInt32 = Int32.ofNat (p + 6) := wi_ona p 6
  refine ⟨p + 2, congrArg (fun x => [Value.ref 1, Value.int x]) e2, by omega, hok, ?_⟩
  refine ⟨fun y => ?_, fun y => ?_⟩
  · rw [show pr_rng (wt_c I) n p = pr_b n p from if_neg (fun z => by rw [wp_b0 y] at z; cases z.1)] at h
    exact ⟨ts, n, (0, none), p, rfl, hT, hK, by omega, by omega, fun I1 L1 a b => h I1 L1 a b⟩
  refine ⟨p + 5, congrArg (fun x => [Value.ref 1, Value.int x]) e5, by omega, hok, ?_⟩
  refine ⟨fun y2 => ?_, fun y2 => ?_⟩
  · rw [show pr_rng (wt_c I) n p = pr_b n p from if_neg (fun z => by rw [wp_b0 y2] at z; cases z.2.1)] at h
    exact ⟨ts, n, (0, none), p, rfl, hT, hK, by omega, by omega, fun I1 L1 a b => h I1 L1 a b⟩
  refine ⟨p + 6, congrArg (fun x => [Value.ref 1, Value.int x]) e6, by omega, hok, ?_⟩
  refine ⟨fun y3 => ?_, fun y3 => ?_⟩
  rotate_left
  · rw [show pr_rng (wt_c I) n p = pr_b n p from if_neg (fun z => y3 z.2.2)] at h
    exact ⟨ts, n, (0, none), p, rfl, hT, hK, by omega, by omega, fun I1 L1 a b => h I1 L1 a b⟩
  rw [show pr_rng (wt_c I) n p = (some ((Int8.ofInt 22).toInt32, p, wt_c I (p + 2) - (Int8.ofInt 48).toInt32, wt_c I (p + 5) - (Int8.ofInt 48).toInt32, 0), p + 7) from if_pos ⟨wp_b1 y, wp_b1 y2, y3⟩] at h
  refine ⟨p + 2, congrArg (fun x => [Value.ref 1, Value.int x]) e2, by omega, hok, ?_⟩
  refine ⟨p + 5, congrArg (fun x => [Value.ref 1, Value.int x]) e5, by omega, hok, ?_⟩
  exact ⟨ts, n, (0, none), _, _, _, p, 7, rfl, hT, hK, by omega, by omega, fun I1 L1 a b => h I1 L1 a b⟩
set_option maxRecDepth 100000 in
theorem wM_105 : ∃ cb ci np, pt_mt 105 = some (3, cb, 2, false, some .int, ci, np) := ⟨_, _, _, rfl⟩
set_option maxRecDepth 100000 in
set_option maxHeartbeats 4000000 in
theorem pr_scanBracket {sc : pt_Sc} {d : Nat} (hf : wt_fv sc) : wv_C wm_fx sc (d + 1 + 1 + 1 + 1 + 1 + 1) 105 (wt_one 8 pr_brk) := by
  rintro as T N I L R q ⟨ts, n, p, rfl, hT, hS, hK, hl, hpn, h⟩ w0 HR
  obtain ⟨cb, ci, np, hm⟩ := wM_105
  have hc27 : wv_C wm_fx sc (d + 1 + 1 + 1 + 1 + 1) 27 wt_c27 := wv_C_deep (by omega) (wt_addT (d := d))
  have hc36 : wv_C wm_fx sc (d + 1 + 1 + 1 + 1 + 1) 36 wt_c36 := wv_C_deep (by omega) (wt_reads hf (d := d))
  have hc106 : wv_C wm_fx sc (d + 1 + 1 + 1 + 1 + 1) 106 (wt_one 8 pr_rng) := wv_C_deep (by omega) (pr_scanRange (d := d))
  have hc107 : wv_C wm_fx sc (d + 1 + 1 + 1 + 1 + 1) 107 pr_c107 := wv_C_deep (by omega) (pr_scanCount (d := d))
  refine wv_meth (hh := none) rfl (sp := wv_sp [(27, wt_c27), (36, wt_c36), (106, wt_one 8 pr_rng), (107, pr_c107)]) (hd := fun _ => none) (n := 0) (n1 := 300) hm zc_105 rfl (wv_sp_ok (fun q hq => by
    rcases List.mem_cons.mp hq with h | h
    · rw [h]; exact hc27
    rcases List.mem_cons.mp h with h | h
    · rw [h]; exact hc36
    rcases List.mem_cons.mp h with h | h
    · rw [h]; exact hc106
    rw [List.mem_singleton.mp h]; exact hc107)) ?_ (fun pc P h => by cases h) HR
  have hn4 := hK.2.1
  have hok := wt_K_ok hT hK

  have e3 : Int32.ofNat p + Int32.ofInt 3 = Int32.ofNat (p + 3) := wi_ona p 3
  unfold pr_brk at h
  refine ⟨p, 1099511627776 + 22, 1099511627777 + 22, [91, 42, 93], rfl, by omega, hok, hS 22 _ rfl, ?_⟩
  refine ⟨fun w0 => ?_, fun w0 => ?_⟩
  rotate_left
  · rw [if_pos (wp_b1 w0)] at h
    exact ⟨ts, n, (0, none), _, p, 3, rfl, hT, hK, by omega, by omega, fun I1 L1 a b => h I1 L1 a b⟩
  rw [if_neg (by rw [wp_b0 w0]; decide)] at h
  refine ⟨p, 1099511627776 + 24, 1099511627777 + 24, [91, 43, 93], rfl, by omega, hok, hS 24 _ rfl, ?_⟩
  refine ⟨fun w1 => ?_, fun w1 => ?_⟩
  rotate_left
  · rw [if_pos (wp_b1 w1)] at h
    exact ⟨ts, n, (0, none), _, p, 3, rfl, hT, hK, by omega, by omega, fun I1 L1 a b => h I1 L1 a b⟩
  rw [if_neg (by rw [wp_b0 w1]; decide)] at h
  refine ⟨p, 1099511627776 + 26, 1099511627777 + 26, [91, 42], rfl, by omega, hok, hS 26 _ rfl, ?_⟩
  refine ⟨fun w2 => ?_, fun w2 => ?_⟩
  rotate_left
  · rw [if_pos (wp_b1 w2)] at h
    refine ⟨p + 3, 1099511627776 + 28, 1099511627777 + 28, [46, 46], congrArg (fun x => [Value.ref 1, Value.int x, Value.ref (1099511627776 + 28)]) e3, by omega, hok, hS 28 _ rfl, ?_⟩
    refine ⟨fun w3 => ?_, fun w3 => ?_⟩
    rotate_left
    · rw [if_pos (wp_b1 w3)] at h
      exact ⟨ts, n, p, rfl, hT, hS, hK, hl, hpn, fun I1 L1 a b => h I1 L1 a b⟩
    rw [if_neg (by rw [wp_b0 w3]; decide)] at h
    refine ⟨p, 1099511627776 + 26, 1099511627777 + 26, [91, 42], rfl, by omega, hok, hS 26 _ rfl, ?_⟩
    refine ⟨fun w4 => (w2 w4).elim, fun _ => ?_⟩
    exact ⟨ts, n, p, 2, _, rfl, hT, hS, hK, hl, hpn, by omega, fun I1 L1 a b => h I1 L1 a b⟩
  rw [if_neg (by rw [wp_b0 w2]; decide)] at h
  refine ⟨p, 1099511627776 + 26, 1099511627777 + 26, [91, 42], rfl, by omega, hok, hS 26 _ rfl, ?_⟩
  refine ⟨fun _ => ?_, fun w4 => (w4 w2).elim⟩
  refine ⟨p, 1099511627776 + 30, 1099511627777 + 30, [91, 45, 62], rfl, by omega, hok, hS 30 _ rfl, ?_⟩
  refine ⟨fun w5 => ?_, fun w5 => ?_⟩
  rotate_left
  · rw [if_pos (wp_b1 w5)] at h
    exact ⟨ts, n, p, 3, _, rfl, hT, hS, hK, hl, hpn, by omega, fun I1 L1 a b => h I1 L1 a b⟩
  rw [if_neg (by rw [wp_b0 w5]; decide)] at h
  refine ⟨p, 1099511627776 + 32, 1099511627777 + 32, [91, 61], rfl, by omega, hok, hS 32 _ rfl, ?_⟩
  refine ⟨fun w6 => ?_, fun w6 => ?_⟩
  rotate_left
  · rw [if_pos (wp_b1 w6)] at h
    exact ⟨ts, n, p, 2, _, rfl, hT, hS, hK, hl, hpn, by omega, fun I1 L1 a b => h I1 L1 a b⟩
  rw [if_neg (by rw [wp_b0 w6]; decide)] at h
  exact ⟨ts, n, p, 1, _, rfl, hT, hS, hK, hl, hpn, by omega, fun I1 L1 a b => h I1 L1 a b⟩
set_option maxRecDepth 100000 in
theorem wM_108 : ∃ cb ci np, pt_mt 108 = some (3, cb, 2, false, some .int, ci, np) := ⟨_, _, _, rfl⟩
set_option maxRecDepth 100000 in
set_option maxHeartbeats 4000000 in
theorem pr_scanBar {sc : pt_Sc} {d : Nat} (hf : wt_fv sc) : wv_C wm_fx sc (d + 1 + 1 + 1 + 1 + 1 + 1) 108 (wt_one 8 pr_bar) := by
  rintro as T N I L R q ⟨ts, n, p, rfl, hT, hS, hK, hl, hpn, h⟩ w0 HR
  obtain ⟨cb, ci, np, hm⟩ := wM_108
  have hc27 : wv_C wm_fx sc (d + 1 + 1 + 1 + 1 + 1) 27 wt_c27 := wv_C_deep (by omega) (wt_addT (d := d))
  have hc36 : wv_C wm_fx sc (d + 1 + 1 + 1 + 1 + 1) 36 wt_c36 := wv_C_deep (by omega) (wt_reads hf (d := d))
  refine wv_meth (hh := none) rfl (sp := wv_sp [(27, wt_c27), (36, wt_c36)]) (hd := fun _ => none) (n := 0) (n1 := 300) hm zc_108 rfl (wv_sp_ok (fun q hq => by
    rcases List.mem_cons.mp hq with h | h
    · rw [h]; exact hc27
    rw [List.mem_singleton.mp h]; exact hc36)) ?_ (fun pc P h => by cases h) HR
  have hn4 := hK.2.1
  have hok := wt_K_ok hT hK

  unfold pr_bar at h
  refine ⟨p, 1099511627776 + 34, 1099511627777 + 34, [124, 45, 62], rfl, by omega, hok, hS 34 _ rfl, ?_⟩
  refine ⟨fun w34 => ?_, fun w34 => ?_⟩
  rotate_left
  · rw [if_pos (wp_b1 w34)] at h
    exact ⟨ts, n, (0, none), _, p, 3, rfl, hT, hK, by omega, by omega, fun I1 L1 a b => h I1 L1 a b⟩
  rw [if_neg (by rw [wp_b0 w34]; decide)] at h
  refine ⟨p, 1099511627776 + 36, 1099511627777 + 36, [124, 61, 62], rfl, by omega, hok, hS 36 _ rfl, ?_⟩
  refine ⟨fun w36 => ?_, fun w36 => ?_⟩
  rotate_left
  · rw [if_pos (wp_b1 w36)] at h
    exact ⟨ts, n, (0, none), _, p, 3, rfl, hT, hK, by omega, by omega, fun I1 L1 a b => h I1 L1 a b⟩
  rw [if_neg (by rw [wp_b0 w36]; decide)] at h
  refine ⟨p, 1099511627776 + 38, 1099511627777 + 38, [124, 124], rfl, by omega, hok, hS 38 _ rfl, ?_⟩
  refine ⟨fun w38 => ?_, fun w38 => ?_⟩
  rotate_left
  · rw [if_pos (wp_b1 w38)] at h
    exact ⟨ts, n, (0, none), _, p, 2, rfl, hT, hK, by omega, by omega, fun I1 L1 a b => h I1 L1 a b⟩
  rw [if_neg (by rw [wp_b0 w38]; decide)] at h
  exact ⟨ts, n, (0, none), _, p, 1, rfl, hT, hK, by omega, by omega, fun I1 L1 a b => h I1 L1 a b⟩
def pr_c110 : wv_c1 := fun as T N I L R q => ∃ p z : Nat, as = [.ref 8, .int (Int32.ofNat p), .int (Int32.ofNat z)] ∧ p < 1000000000 ∧ z ≤ 400 ∧ wt_ok T I ∧ wt_S T I R ∧ q (.inl (some (.int (pr_wk (wt_c I) p z)))) T N I L R 0 0
set_option maxRecDepth 100000 in
theorem wM_110 : ∃ cb ci np, pt_mt 110 = some (3, cb, 3, false, some .int, ci, np) := ⟨_, _, _, rfl⟩
set_option maxRecDepth 100000 in
set_option maxHeartbeats 4000000 in
theorem pr_wordKind {sc : pt_Sc} {d : Nat} (hf : wt_fv sc) : wv_C wm_fx sc (d + 1 + 1 + 1 + 1 + 1 + 1 + 1) 110 pr_c110 := by
  rintro as T N I L R q ⟨p, z, rfl, hp, hz4, hok, hS, h⟩ w0 HR
  obtain ⟨cb, ci, np, hm⟩ := wM_110
  have hc33 : wv_C wm_fx sc (d + 1 + 1 + 1 + 1 + 1 + 1) 33 wt_c33 := wv_C_deep (by omega) (wt_isWord hf (d := d))
  refine wv_meth (hh := none) rfl (sp := wv_sp [(33, wt_c33)]) (hd := fun _ => none) (n := 0) (n1 := 300) hm zc_110 rfl (wv_sp_ok (fun q hq => by rw [List.mem_singleton.mp hq]; exact hc33)) ?_ (fun pc P h => by cases h) HR
  unfold pr_wk at h
  refine ⟨p, z, 1099511627776 + 44, 1099511627777 + 44, [97, 108, 119, 97, 121, 115], rfl, by omega, hz4, hok, hS 44 _ rfl, ?_⟩
  refine ⟨fun w44 => ?_, fun w44 => ?_⟩
  rotate_left
  · rw [if_pos (show (decide (z = 6) && wt_rd (wt_c I) p [97, 108, 119, 97, 121, 115]) = true from wp_b1 w44)] at h
    exact h
  rw [if_neg (by rw [show (decide (z = 6) && wt_rd (wt_c I) p [97, 108, 119, 97, 121, 115]) = false from wp_b0 w44]; decide)] at h
  refine ⟨p, z, 1099511627776 + 46, 1099511627777 + 46, [110, 101, 118, 101, 114], rfl, by omega, hz4, hok, hS 46 _ rfl, ?_⟩
  refine ⟨fun w46 => ?_, fun w46 => ?_⟩
  rotate_left
  · rw [if_pos (show (decide (z = 5) && wt_rd (wt_c I) p [110, 101, 118, 101, 114]) = true from wp_b1 w46)] at h
    exact h
  rw [if_neg (by rw [show (decide (z = 5) && wt_rd (wt_c I) p [110, 101, 118, 101, 114]) = false from wp_b0 w46]; decide)] at h
  refine ⟨p, z, 1099511627776 + 16, 1099511627777 + 16, [110, 101, 120, 116], rfl, by omega, hz4, hok, hS 16 _ rfl, ?_⟩
  refine ⟨fun w16 => ?_, fun w16 => ?_⟩
  rotate_left
  · rw [if_pos (show (decide (z = 4) && wt_rd (wt_c I) p [110, 101, 120, 116]) = true from wp_b1 w16)] at h
    exact h
  rw [if_neg (by rw [show (decide (z = 4) && wt_rd (wt_c I) p [110, 101, 120, 116]) = false from wp_b0 w16]; decide)] at h
  refine ⟨p, z, 1099511627776 + 48, 1099511627777 + 48, [117, 110, 116, 105, 108], rfl, by omega, hz4, hok, hS 48 _ rfl, ?_⟩
  refine ⟨fun w48 => ?_, fun w48 => ?_⟩
  rotate_left
  · rw [if_pos (show (decide (z = 5) && wt_rd (wt_c I) p [117, 110, 116, 105, 108]) = true from wp_b1 w48)] at h
    exact h
  rw [if_neg (by rw [show (decide (z = 5) && wt_rd (wt_c I) p [117, 110, 116, 105, 108]) = false from wp_b0 w48]; decide)] at h
  refine ⟨p, z, 1099511627776 + 50, 1099511627777 + 50, [98, 101, 102, 111, 114, 101], rfl, by omega, hz4, hok, hS 50 _ rfl, ?_⟩
  refine ⟨fun w50 => ?_, fun w50 => ?_⟩
  rotate_left
  · rw [if_pos (show (decide (z = 6) && wt_rd (wt_c I) p [98, 101, 102, 111, 114, 101]) = true from wp_b1 w50)] at h
    exact h
  rw [if_neg (by rw [show (decide (z = 6) && wt_rd (wt_c I) p [98, 101, 102, 111, 114, 101]) = false from wp_b0 w50]; decide)] at h
  refine ⟨p, z, 1099511627776 + 52, 1099511627777 + 52, [97, 110, 100], rfl, by omega, hz4, hok, hS 52 _ rfl, ?_⟩
  refine ⟨fun w52 => ?_, fun w52 => ?_⟩
  rotate_left
  · rw [if_pos (show (decide (z = 3) && wt_rd (wt_c I) p [97, 110, 100]) = true from wp_b1 w52)] at h
    exact h
  rw [if_neg (by rw [show (decide (z = 3) && wt_rd (wt_c I) p [97, 110, 100]) = false from wp_b0 w52]; decide)] at h
  exact h
set_option maxRecDepth 100000 in
theorem wM_109 : ∃ cb ci np, pt_mt 109 = some (3, cb, 5, false, some .int, ci, np) := ⟨_, _, _, rfl⟩
set_option maxRecDepth 100000 in
set_option maxHeartbeats 4000000 in
theorem pr_scanWord {sc : pt_Sc} {d : Nat} (hf : wt_fv sc) : wv_C wm_fx sc (d + 1 + 1 + 1 + 1 + 1 + 1 + 1 + 1) 109 (wt_one 8 pr_word) := by
  rintro as T N I L R q ⟨ts, n, p, rfl, hT, hS, hK, hl, hpn, h⟩ w0 HR
  obtain ⟨cb, ci, np, hm⟩ := wM_109
  have hc26 : wv_C wm_fx sc (d + 1 + 1 + 1 + 1 + 1 + 1 + 1) 26 wt_c26 := wv_C_deep (by omega) (wt_signAt (d := d))
  have hc27 : wv_C wm_fx sc (d + 1 + 1 + 1 + 1 + 1 + 1 + 1) 27 wt_c27 := wv_C_deep (by omega) (wt_addT (d := d))
  have hc28 : wv_C wm_fx sc (d + 1 + 1 + 1 + 1 + 1 + 1 + 1) 28 wt_c28 := wv_C_deep (by omega) (wt_addCounted (d := d))
  have hc31 : wv_C wm_fx sc (d + 1 + 1 + 1 + 1 + 1 + 1 + 1) 31 wt_c31 := wv_C_deep (by omega) (wt_wordLength (d := d))
  have hc32 : wv_C wm_fx sc (d + 1 + 1 + 1 + 1 + 1 + 1 + 1) 32 wt_c32 := wv_C_deep (by omega) (wt_addBad (d := d))
  have hc110 : wv_C wm_fx sc (d + 1 + 1 + 1 + 1 + 1 + 1 + 1) 110 pr_c110 := wv_C_deep (by omega) (pr_wordKind hf (d := d))
  refine wv_meth (hh := none) rfl (sp := wv_sp [(26, wt_c26), (27, wt_c27), (28, wt_c28), (31, wt_c31), (32, wt_c32), (110, pr_c110)]) (hd := fun _ => none) (n := 0) (n1 := 300) hm zc_109 rfl (wv_sp_ok (fun q hq => by
    rcases List.mem_cons.mp hq with h | h
    · rw [h]; exact hc26
    rcases List.mem_cons.mp h with h | h
    · rw [h]; exact hc27
    rcases List.mem_cons.mp h with h | h
    · rw [h]; exact hc28
    rcases List.mem_cons.mp h with h | h
    · rw [h]; exact hc31
    rcases List.mem_cons.mp h with h | h
    · rw [h]; exact hc32
    rw [List.mem_singleton.mp h]; exact hc110)) ?_ (fun pc P h => by cases h) HR
  have hn4 := hK.2.1
  have hok := wt_K_ok hT hK

  refine ⟨p, rfl, by omega, hok, ?_⟩
  refine ⟨p, rfl, by omega, hok, ?_⟩
  unfold pr_word at h
  generalize hz : wt_wl (wt_c I) p 400 = z at h ⊢
  have hz4 : z ≤ 400 := by rw [← hz]; exact wt_wl_le _ _ _
  have ez := wi_on (n := z) (by omega)
  have hk : ¬ (z = 1 ∧ ¬ (Int8.ofInt 6).toInt32 ≤ wt_c I p - (Int8.ofInt 97).toInt32) → ∀ q2, q2 = pr_wk (wt_c I) p z → (q2 = Int32.ofInt 1 → ∀ I1 L1, wt_K I1 L1 (ts ++ [(Int32.ofInt 1, p, Int32.ofInt 0, Int32.ofInt 0, 0)]) n 0 none → wt_A I L I1 L1 → q (.inl (some (.int (Int32.ofNat n)))) T N I1 L1 R 0 0) ∧ (¬ q2 = Int32.ofInt 1 → ∀ I1 L1, wt_K I1 L1 (ts ++ [(q2, p, Int32.ofInt 0, Int32.ofInt 0, 0)]) n 0 none → wt_A I L I1 L1 → q (.inl (some (.int (Int32.ofNat (p + z))))) T N I1 L1 R 0 0) := by
    rintro hn q2 rfl
    rw [if_neg hn] at h
    refine ⟨fun e => ?_, fun e => ?_⟩
    · rw [if_pos e] at h
      exact h
    · rw [if_neg e] at h
      exact h
  refine ⟨fun h1 => ?_, fun h1 => ?_⟩
  · have hz1 : ¬ z = 1 := fun e => h1 (by rw [e]; rfl)
    refine ⟨p, z, rfl, by omega, hz4, hok, hS, ?_⟩
    obtain ⟨k1, k2⟩ := hk (fun z => hz1 z.1) _ rfl
    generalize pr_wk (wt_c I) p z = kk at k1 k2 ⊢
    refine ⟨fun h2 => ?_, fun h2 => ?_⟩
    · exact ⟨ts, n, (0, none), kk, p, z, rfl, hT, hK, by omega, by omega, fun I1 L1 a b => k2 h2 I1 L1 a b⟩
    · exact ⟨ts, n, (0, none), p, rfl, hT, hK, by omega, by omega, fun I1 L1 a b => k1 (Decidable.not_not.mp h2) I1 L1 a b⟩
  · have hz1 : z = 1 := by
      have h1 := Decidable.not_not.mp h1
      have := congrArg Int32.toInt h1
      rw [ez] at this
      have e1 : (Int32.ofInt 1).toInt = 1 := rfl
      rw [e1] at this
      omega
    refine ⟨fun h2 => ?_, fun h2 => ?_⟩
    · refine ⟨p, z, rfl, by omega, hz4, hok, hS, ?_⟩
      obtain ⟨k1, k2⟩ := hk (fun z => z.2 h2) _ rfl
      generalize pr_wk (wt_c I) p z = kk at k1 k2 ⊢
      refine ⟨fun h3 => ?_, fun h3 => ?_⟩
      · exact ⟨ts, n, (0, none), kk, p, z, rfl, hT, hK, by omega, by omega, fun I1 L1 a b => k2 h3 I1 L1 a b⟩
      · exact ⟨ts, n, (0, none), p, rfl, hT, hK, by omega, by omega, fun I1 L1 a b => k1 (Decidable.not_not.mp h3) I1 L1 a b⟩
    · rw [if_pos ⟨hz1, h2⟩] at h
      exact ⟨ts, n, (0, none), _, _, _, p, z, rfl, hT, hK, by omega, by omega, fun I1 L1 a b => h I1 L1 a b⟩
set_option maxRecDepth 100000 in
theorem wM_104 : ∃ cb ci np, pt_mt 104 = some (3, cb, 2, false, some .int, ci, np) := ⟨_, _, _, rfl⟩
set_option maxRecDepth 100000 in
set_option maxHeartbeats 4000000 in
theorem pr_scanOne {sc : pt_Sc} {d : Nat} (hf : wt_fv sc) : wv_C wm_fx sc (d + 1 + 1 + 1 + 1 + 1 + 1 + 1 + 1 + 1) 104 (wt_one 8 pr_st) := by
  rintro as T N I L R q ⟨ts, n, p, rfl, hT, hS, hK, hl, hpn, h⟩ w0 HR
  obtain ⟨cb, ci, np, hm⟩ := wM_104
  have hc26 : wv_C wm_fx sc (d + 1 + 1 + 1 + 1 + 1 + 1 + 1 + 1) 26 wt_c26 := wv_C_deep (by omega) (wt_signAt (d := d))
  have hc27 : wv_C wm_fx sc (d + 1 + 1 + 1 + 1 + 1 + 1 + 1 + 1) 27 wt_c27 := wv_C_deep (by omega) (wt_addT (d := d))
  have hc29 : wv_C wm_fx sc (d + 1 + 1 + 1 + 1 + 1 + 1 + 1 + 1) 29 wt_c29 := wv_C_deep (by omega) (wt_isSmall (d := d))
  have hc32 : wv_C wm_fx sc (d + 1 + 1 + 1 + 1 + 1 + 1 + 1 + 1) 32 wt_c32 := wv_C_deep (by omega) (wt_addBad (d := d))
  have hc36 : wv_C wm_fx sc (d + 1 + 1 + 1 + 1 + 1 + 1 + 1 + 1) 36 wt_c36 := wv_C_deep (by omega) (wt_reads hf (d := d))
  have hc105 : wv_C wm_fx sc (d + 1 + 1 + 1 + 1 + 1 + 1 + 1 + 1) 105 (wt_one 8 pr_brk) := wv_C_deep (by omega) (pr_scanBracket hf (d := d))
  have hc108 : wv_C wm_fx sc (d + 1 + 1 + 1 + 1 + 1 + 1 + 1 + 1) 108 (wt_one 8 pr_bar) := wv_C_deep (by omega) (pr_scanBar hf (d := d))
  have hc109 : wv_C wm_fx sc (d + 1 + 1 + 1 + 1 + 1 + 1 + 1 + 1) 109 (wt_one 8 pr_word) := wv_C_deep (by omega) (pr_scanWord hf (d := d))
  refine wv_meth (hh := none) rfl (sp := wv_sp [(26, wt_c26), (27, wt_c27), (29, wt_c29), (32, wt_c32), (36, wt_c36), (105, wt_one 8 pr_brk), (108, wt_one 8 pr_bar), (109, wt_one 8 pr_word)]) (hd := fun _ => none) (n := 0) (n1 := 300) hm zc_104 rfl (wv_sp_ok (fun q hq => by
    rcases List.mem_cons.mp hq with h | h
    · rw [h]; exact hc26
    rcases List.mem_cons.mp h with h | h
    · rw [h]; exact hc27
    rcases List.mem_cons.mp h with h | h
    · rw [h]; exact hc29
    rcases List.mem_cons.mp h with h | h
    · rw [h]; exact hc32
    rcases List.mem_cons.mp h with h | h
    · rw [h]; exact hc36
    rcases List.mem_cons.mp h with h | h
    · rw [h]; exact hc105
    rcases List.mem_cons.mp h with h | h
    · rw [h]; exact hc108
    rw [List.mem_singleton.mp h]; exact hc109)) ?_ (fun pc P h => by cases h) HR
  have hn4 := hK.2.1
  have hok := wt_K_ok hT hK
  refine ⟨p, rfl, by omega, hok, ?_⟩
  unfold pr_st at h
  refine ⟨fun x => ?_, fun x32 => ?_⟩
  · rw [show (wt_c I p).toInt = 32 from x] at h
    have h1 : wt_K I L (ts ++ []) n 0 none := by rw [List.append_nil]; exact hK
    have h2 : q (.inl (some (.int (Int32.ofNat (p + 1))))) T N I L R 0 0 := h I L h1 (wt_A_id _ _)
    rw [← wq_4s] at h2
    exact h2
  refine ⟨fun x => ?_, fun x33 => ?_⟩
  · rw [show (wt_c I p).toInt = 33 from x] at h
    exact ⟨ts, n, (0, none), _, p, 1, rfl, hT, hK, by omega, by omega, fun I1 L1 a b => h I1 L1 a b⟩
  refine ⟨fun x => ?_, fun x38 => ?_⟩
  · rw [show (wt_c I p).toInt = 38 from x] at h
    have h : ∀ I1 L1, wt_K I1 L1 (ts ++ (if wt_rd (wt_c I) p [38, 38] = true then pr_t ((Int8.ofInt 12).toInt32) p 2 else pr_t ((Int8.ofInt 7).toInt32) p 1).1.toList) n 0 none → wt_A I L I1 L1 → q (.inl (some (.int (Int32.ofNat (if wt_rd (wt_c I) p [38, 38] = true then pr_t ((Int8.ofInt 12).toInt32) p 2 else pr_t ((Int8.ofInt 7).toInt32) p 1).2)))) T N I1 L1 R 0 0 := h
    refine ⟨p, 1099511627776 + 40, 1099511627777 + 40, [38, 38], rfl, by omega, hok, hS 40 _ rfl, ?_⟩
    refine ⟨fun w0 => ?_, fun w0 => ?_⟩
    · rw [if_neg (by rw [wp_b0 w0]; decide)] at h
      exact ⟨ts, n, (0, none), _, p, 1, rfl, hT, hK, by omega, by omega, fun I1 L1 a b => h I1 L1 a b⟩
    · rw [if_pos (wp_b1 w0)] at h
      exact ⟨ts, n, (0, none), _, p, 2, rfl, hT, hK, by omega, by omega, fun I1 L1 a b => h I1 L1 a b⟩
  refine ⟨fun x => ?_, fun x40 => ?_⟩
  · rw [show (wt_c I p).toInt = 40 from x] at h
    exact ⟨ts, n, (0, none), _, p, 1, rfl, hT, hK, by omega, by omega, fun I1 L1 a b => h I1 L1 a b⟩
  refine ⟨fun x => ?_, fun x41 => ?_⟩
  · rw [show (wt_c I p).toInt = 41 from x] at h
    exact ⟨ts, n, (0, none), _, p, 1, rfl, hT, hK, by omega, by omega, fun I1 L1 a b => h I1 L1 a b⟩
  refine ⟨fun x => ?_, fun x45 => ?_⟩
  · rw [show (wt_c I p).toInt = 45 from x] at h
    have h : ∀ I1 L1, wt_K I1 L1 (ts ++ (if wt_rd (wt_c I) p [45, 62] = true then pr_t ((Int8.ofInt 17).toInt32) p 2 else pr_b n p).1.toList) n 0 none → wt_A I L I1 L1 → q (.inl (some (.int (Int32.ofNat (if wt_rd (wt_c I) p [45, 62] = true then pr_t ((Int8.ofInt 17).toInt32) p 2 else pr_b n p).2)))) T N I1 L1 R 0 0 := h
    refine ⟨p, 1099511627776 + 42, 1099511627777 + 42, [45, 62], rfl, by omega, hok, hS 42 _ rfl, ?_⟩
    refine ⟨fun w0 => ?_, fun w0 => ?_⟩
    · rw [if_neg (by rw [wp_b0 w0]; decide)] at h
      exact ⟨ts, n, (0, none), p, rfl, hT, hK, by omega, by omega, fun I1 L1 a b => h I1 L1 a b⟩
    · rw [if_pos (wp_b1 w0)] at h
      exact ⟨ts, n, (0, none), _, p, 2, rfl, hT, hK, by omega, by omega, fun I1 L1 a b => h I1 L1 a b⟩
  refine ⟨fun x => ?_, fun x48 => ?_⟩
  · rw [show (wt_c I p).toInt = 48 from x] at h
    exact ⟨ts, n, (0, none), _, p, 1, rfl, hT, hK, by omega, by omega, fun I1 L1 a b => h I1 L1 a b⟩
  refine ⟨fun x => ?_, fun x49 => ?_⟩
  · rw [show (wt_c I p).toInt = 49 from x] at h
    exact ⟨ts, n, (0, none), _, p, 1, rfl, hT, hK, by omega, by omega, fun I1 L1 a b => h I1 L1 a b⟩
  refine ⟨fun x => ?_, fun x58 => ?_⟩
  · rw [show (wt_c I p).toInt = 58 from x] at h
    exact ⟨ts, n, (0, none), _, p, 1, rfl, hT, hK, by omega, by omega, fun I1 L1 a b => h I1 L1 a b⟩
  refine ⟨fun x => ?_, fun x59 => ?_⟩
  · rw [show (wt_c I p).toInt = 59 from x] at h
    exact ⟨ts, n, (0, none), _, p, 1, rfl, hT, hK, by omega, by omega, fun I1 L1 a b => h I1 L1 a b⟩
  refine ⟨fun x => ?_, fun x91 => ?_⟩
  · rw [show (wt_c I p).toInt = 91 from x] at h
    exact ⟨ts, n, p, rfl, hT, hS, hK, hl, hpn, fun I1 L1 a b => h I1 L1 a b⟩
  refine ⟨fun x => ?_, fun x123 => ?_⟩
  · rw [show (wt_c I p).toInt = 123 from x] at h
    exact ⟨ts, n, (0, none), _, p, 1, rfl, hT, hK, by omega, by omega, fun I1 L1 a b => h I1 L1 a b⟩
  refine ⟨fun x => ?_, fun x124 => ?_⟩
  · rw [show (wt_c I p).toInt = 124 from x] at h
    exact ⟨ts, n, p, rfl, hT, hS, hK, hl, hpn, fun I1 L1 a b => h I1 L1 a b⟩
  refine ⟨fun x => ?_, fun x125 => ?_⟩
  · rw [show (wt_c I p).toInt = 125 from x] at h
    exact ⟨ts, n, (0, none), _, p, 1, rfl, hT, hK, by omega, by omega, fun I1 L1 a b => h I1 L1 a b⟩
  rw [if_neg x32, if_neg x38, if_neg x45, if_neg x91, if_neg x124, show pr_k (wt_c I p).toInt = none from by unfold pr_k; rw [if_neg x33, if_neg x40, if_neg x41, if_neg x48, if_neg x49, if_neg x58, if_neg x59, if_neg x123, if_neg x125]] at h
  have h : ∀ I1 L1, wt_K I1 L1 (ts ++ (if wt_sml (wt_c I) p = true then pr_word (wt_c I) n p else pr_b n p).1.toList) n 0 none → wt_A I L I1 L1 → q (.inl (some (.int (Int32.ofNat (if wt_sml (wt_c I) p = true then pr_word (wt_c I) n p else pr_b n p).2)))) T N I1 L1 R 0 0 := h
  refine ⟨p, rfl, by omega, hok, ?_⟩
  refine ⟨fun y => ?_, fun y => ?_⟩
  · rw [if_neg (by rw [wp_b0 y]; decide)] at h
    exact ⟨ts, n, (0, none), p, rfl, hT, hK, by omega, by omega, fun I1 L1 a b => h I1 L1 a b⟩
  · rw [if_pos (wp_b1 y)] at h
    exact ⟨ts, n, p, rfl, hT, hS, hK, hl, hpn, fun I1 L1 a b => h I1 L1 a b⟩
set_option maxRecDepth 100000 in
theorem wM_103 : ∃ cb ci np, pt_mt 103 = some (3, cb, 3, false, none, ci, np) := ⟨_, _, _, rfl⟩
set_option maxRecDepth 100000 in
set_option maxHeartbeats 4000000 in
theorem pr_scan {sc : pt_Sc} {d : Nat} (hf : wt_fv sc) : wv_C wm_fx sc (d + 1 + 1 + 1 + 1 + 1 + 1 + 1 + 1 + 1 + 1) 103 (wt_scn 8 pr_st) := by
  rintro as T N I L R q ⟨n, rfl, hT, hS, h6, hn, hb, h⟩ w0 HR
  obtain ⟨cb, ci, np, hm⟩ := wM_103
  have hc23 : wv_C wm_fx sc (d + 1 + 1 + 1 + 1 + 1 + 1 + 1 + 1 + 1) 23 wt_c23 := wv_C_deep (by omega) (wt_restart (d := d))
  have hc24 : wv_C wm_fx sc (d + 1 + 1 + 1 + 1 + 1 + 1 + 1 + 1 + 1) 24 wp_c24 := wv_C_deep (by omega) (wp_count (d := d))
  have hc104 : wv_C wm_fx sc (d + 1 + 1 + 1 + 1 + 1 + 1 + 1 + 1 + 1) 104 (wt_one 8 pr_st) := wv_C_deep (by omega) (pr_scanOne hf (d := d))
  have hc47 : wv_C wm_fx sc (d + 1 + 1 + 1 + 1 + 1 + 1 + 1 + 1 + 1) 47 wt_c47 := wv_C_deep (by omega) (wt_finish (d := d))
  refine wv_meth (hh := none) rfl (sp := wv_sp [(23, wt_c23), (24, wp_c24), (104, wt_one 8 pr_st), (47, wt_c47)]) (hd := wt_hsc 8 pr_st n T N I L R) (n := 300) (n1 := 300) hm zc_103 rfl (wv_sp_ok (fun q hq => by
    rcases List.mem_cons.mp hq with h | h
    · rw [h]; exact hc23
    rcases List.mem_cons.mp h with h | h
    · rw [h]; exact hc24
    rcases List.mem_cons.mp h with h | h
    · rw [h]; exact hc104
    rw [List.mem_singleton.mp h]; exact hc47)) ?_ ?_ HR
  · refine ⟨n, rfl, h6, hn, fun I1 hK hA => ?_⟩
    exact ⟨400, 0, 0, [], rfl, rfl, rfl, rfl, rfl, rfl, rfl, Nat.zero_le _, rfl, Nat.zero_le _, hK, hA, Nat.le_refl _, rfl⟩
  · intro pc P hP m lv st T1 N1 I1 L1 R1 nc ns hh
    unfold wt_hsc at hP
    split at hP
    · cases hP
      rename_i hpc
      subst hpc
      obtain ⟨k, p, ts, rfl, rfl, rfl, rfl, rfl, rfl, rfl, hk, hm, hp, hK, hA, hl, he⟩ := hh
      have ek := wi_on (n := k) (by omega)
      have ep := wi_on (n := p) (by omega)
      have en := wi_on (n := n) (by omega)
      have e400 : ((Int16.ofInt 400).toInt32).toInt = 400 := rfl
      have hcc : wt_c I1 = wt_c I := wt_A_c hA
      have hfin : wt_lex (pr_st (wt_c I) n) n (400 - k) p = [(Int32.ofInt 0, n, Int32.ofInt 0, Int32.ofInt 0, 0)] → ∀ I2 L2, wt_K I2 L2 (ts ++ [(Int32.ofInt 0, n, Int32.ofInt 0, Int32.ofInt 0, 0)]) n 0 none → wt_A I1 L1 I2 L2 → q (.inl none) T1 N1 I2 L2 R1 0 0 := by
        intro e I2 L2 a b
        rw [e] at he
        rw [he] at a
        exact h I2 L2 a (wt_A_tr hA b)
      refine ⟨fun h1 => ?_, fun h1 => ?_⟩
      · have e : k = 400 := by rw [wi_le, ek, e400] at h1; omega
        exact ⟨ts, n, (0, none), rfl, hT, hK, by omega, hfin (by rw [e]; rfl)⟩
      · have hk4 : k < 400 := by rw [wi_le, ek, e400] at h1; omega
        have hs : 400 - k = (400 - (k + 1)) + 1 := by omega
        refine ⟨rfl, ?_⟩
        rw [wt_A_6 hA, h6]
        refine ⟨fun h2 => ?_, fun h2 => ?_⟩
        · have hpn : n ≤ p := by rw [wi_le, ep, en] at h2; omega
          refine ⟨ts, n, (0, none), rfl, hT, hK, by omega, hfin ?_⟩
          rw [hs]
          unfold wt_lex
          rw [if_neg (by omega)]
        · have hpn : p < n := by rw [wi_le, ep, en] at h2; omega
          rw [hs] at he
          unfold wt_lex at he
          rw [if_pos hpn] at he
          refine ⟨ts, n, p, rfl, hT, wt_A_S hA hS, hK, by omega, hpn, fun I2 L2 a b => ?_⟩
          rw [hcc] at a ⊢
          have hb2 := hb p hpn
          cases hst : pr_st (wt_c I) n p with
          | mk o p2 =>
            rw [hst] at a he hb2
            cases o with
            | none =>
              have a2 : wt_K I2 L2 (ts ++ []) n 0 none := a
              rw [List.append_nil] at a2
              exact ⟨400 - (k + 1), by omega, k + 1, p2, ts, by rw [← wq_4s]; rfl, rfl, rfl, rfl, rfl, rfl, rfl, by omega, rfl, hb2, a2, wt_A_tr hA b, by omega, he⟩
            | some t =>
              exact ⟨400 - (k + 1), by omega, k + 1, p2, ts ++ [t], by rw [← wq_4s]; rfl, rfl, rfl, rfl, rfl, rfl, rfl, by omega, rfl, hb2, a, wt_A_tr hA b, by rw [List.length_append]; simp only [List.length_singleton]; omega, by rw [List.append_assoc]; exact he⟩
    · cases hP
theorem pr_wk_z {t : Nat → Int32} {p z : Nat} (h : ¬ pr_wk t p z = Int32.ofInt 1) : z ≤ 6 := by
  refine Decidable.not_not.mp (fun hz => h ?_)
  unfold pr_wk
  rw [if_neg (fun e => by rw [decide_eq_false (show ¬ z = 6 by omega), Bool.false_and] at e; cases e), if_neg (fun e => by rw [decide_eq_false (show ¬ z = 5 by omega), Bool.false_and] at e; cases e), if_neg (fun e => by rw [decide_eq_false (show ¬ z = 4 by omega), Bool.false_and] at e; cases e), if_neg (fun e => by rw [decide_eq_false (show ¬ z = 5 by omega), Bool.false_and] at e; cases e), if_neg (fun e => by rw [decide_eq_false (show ¬ z = 6 by omega), Bool.false_and] at e; cases e), if_neg (fun e => by rw [decide_eq_false (show ¬ z = 3 by omega), Bool.false_and] at e; cases e)]
theorem pr_st_le {t : Nat → Int32} {n p : Nat} (hn : n ≤ 400) (hp : p < n) : (pr_st t n p).2 ≤ 1000 := by
  have hb : (pr_b n p).2 ≤ 1000 := by show n ≤ 1000; omega
  have ht : ∀ k z, z ≤ 400 → (pr_t k p z).2 ≤ 1000 := fun k z hz => by show p + z ≤ 1000; omega
  have hc : ∀ k a, a ≤ 10 → (pr_cnt t n k p a).2 ≤ 1000 := fun k a ha => by
    unfold pr_cnt
    split
    · show p + (a + 2) ≤ 1000; omega
    · exact hb
  have hw := wt_wl_le t 400 p
  unfold pr_st
  split
  · show p + 1 ≤ 1000; omega
  split
  · split
    · exact ht _ _ (by omega)
    · exact ht _ _ (by omega)
  split
  · split
    · exact ht _ _ (by omega)
    · exact hb
  split
  · unfold pr_brk
    split
    · exact ht _ _ (by omega)
    split
    · exact ht _ _ (by omega)
    split
    · split
      · unfold pr_rng
        split
        · show p + 7 ≤ 1000; omega
        · exact hb
      · exact hc _ _ (by omega)
    split
    · exact hc _ _ (by omega)
    split
    · exact hc _ _ (by omega)
    · exact hc _ _ (by omega)
  split
  · unfold pr_bar
    split
    · exact ht _ _ (by omega)
    split
    · exact ht _ _ (by omega)
    split
    · exact ht _ _ (by omega)
    · exact ht _ _ (by omega)
  split
  · exact ht _ _ (by omega)
  split
  · unfold pr_word
    split
    · show p + wt_wl t p 400 ≤ 1000; omega
    split
    · exact hb
    · exact ht _ _ hw
  · exact hb
