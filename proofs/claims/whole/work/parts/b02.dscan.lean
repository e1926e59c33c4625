/-! ===== a design text, scanned ===== -/
def ds_word (t : Nat → Int32) (n p z : Nat) : Option wt_t × Nat := if 8 < z then (some (Int32.ofInt 1, p, Int32.ofInt 0, Int32.ofInt 0, 0), n) else if (decide (z = 5) && wt_rd t p [105, 110, 112, 117, 116]) = true then (some ((Int8.ofInt 33).toInt32, p, Int32.ofInt 0, Int32.ofInt 0, 0), p + z) else if (decide (z = 5) && wt_rd t p [108, 97, 116, 99, 104]) = true then (some ((Int8.ofInt 34).toInt32, p, Int32.ofInt 0, Int32.ofInt 0, 0), p + z) else if (decide (z = 4) && wt_rd t p [119, 105, 114, 101]) = true then (some ((Int8.ofInt 35).toInt32, p, Int32.ofInt 0, Int32.ofInt 0, 0), p + z) else if (decide (z = 4) && wt_rd t p [110, 101, 120, 116]) = true then (some ((Int8.ofInt 28).toInt32, p, Int32.ofInt 0, Int32.ofInt 0, 0), p + z) else if (decide (z = 6) && wt_rd t p [115, 105, 103, 110, 97, 108]) = true then (some ((Int8.ofInt 36).toInt32, p, Int32.ofInt 0, Int32.ofInt 0, 0), p + z) else (some ((Int8.ofInt 32).toInt32, p, Int32.ofInt 0, Int32.ofInt 0, ds_nm t p z), p + z)
def ds_k (x : Int) : Option Int32 := if x = 33 then some ((Int8.ofInt 6).toInt32) else if x = 38 then some ((Int8.ofInt 7).toInt32) else if x = 40 then some ((Int8.ofInt 15).toInt32) else if x = 41 then some ((Int8.ofInt 16).toInt32) else if x = 48 then some (Int32.ofInt 4) else if x = 49 then some (Int32.ofInt 5) else if x = 59 then some ((Int8.ofInt 9).toInt32) else if x = 61 then some ((Int8.ofInt 37).toInt32) else if x = 94 then some ((Int8.ofInt 38).toInt32) else if x = 124 then some ((Int8.ofInt 8).toInt32) else none
/-- one turn of a design's scan -/
def ds_st (t : Nat → Int32) (n p : Nat) : Option wt_t × Nat := if (t p).toInt = 32 then (none, p + 1) else (match ds_k (t p).toInt with
  | some k => (some (k, p, Int32.ofInt 0, Int32.ofInt 0, 0), p + 1)
  | none => if wt_sml t p = true then ds_word t n p (wt_wl t p 400) else (some (Int32.ofInt 1, p, Int32.ofInt 0, Int32.ofInt 0, 0), n))
/-- a turn of a scan: what it adds -/
def wt_one (o : Nat) (st : (Nat → Int32) → Nat → Nat → Option wt_t × Nat) : wv_c1 := fun as T N I L R q => ∃ (ts : List wt_t) (n p : Nat), as = [.ref o, .int (Int32.ofNat p)] ∧ wm_T T ∧ wt_S T I R ∧ wt_K I L ts n 0 none ∧ ts.length < 400 ∧ p < n ∧ ∀ I1 L1, wt_K I1 L1 (ts ++ (st (wt_c I) n p).1.toList) n 0 none → wt_A I L I1 L1 → q (.inl (some (.int (Int32.ofNat (st (wt_c I) n p).2)))) T N I1 L1 R 0 0
theorem wp_b0 {x : Bool} (h : wp_b x = 0) : x = false := by
  cases x with
  | false => rfl
  | true => cases h
theorem wp_b1 {x : Bool} (h : ¬ wp_b x = 0) : x = true := by
  cases x with
  | true => rfl
  | false => exact (h rfl).elim
def wt_c30 : wv_c1 := fun as T N I L R q => ∃ (ts : List wt_t) (n p : Nat), as = [.ref 22, .int (Int32.ofNat p)] ∧ wm_T T ∧ wt_S T I R ∧ wt_K I L ts n 0 none ∧ ts.length < 400 ∧ p < n ∧ ∀ I1 L1, wt_K I1 L1 (ts ++ (ds_word (wt_c I) n p (wt_wl (wt_c I) p 400)).1.toList) n 0 none → wt_A I L I1 L1 → q (.inl (some (.int (Int32.ofNat (ds_word (wt_c I) n p (wt_wl (wt_c I) p 400)).2)))) T N I1 L1 R 0 0
set_option maxRecDepth 100000 in
theorem wM_30 : ∃ cb ci np, pt_mt 30 = some (6, cb, 3, false, some .int, ci, np) := ⟨_, _, _, rfl⟩
set_option maxRecDepth 100000 in
set_option maxHeartbeats 4000000 in
theorem wt_scanWordD {sc : pt_Sc} {d : Nat} (hf : wt_fv sc) : wv_C wm_fx sc (d + 1 + 1 + 1 + 1 + 1 + 1 + 1) 30 wt_c30 := by
  rintro as T N I L R q ⟨ts, n, p, rfl, hT, hS, hK, hl, hpn, h⟩ w0 HR
  obtain ⟨cb, ci, np, hm⟩ := wM_30
  have hc31 : wv_C wm_fx sc (d + 1 + 1 + 1 + 1 + 1 + 1) 31 wt_c31 := wv_C_deep (by omega) (wt_wordLength (d := d))
  have hc32 : wv_C wm_fx sc (d + 1 + 1 + 1 + 1 + 1 + 1) 32 wt_c32 := wv_C_deep (by omega) (wt_addBad (d := d))
  have hc33 : wv_C wm_fx sc (d + 1 + 1 + 1 + 1 + 1 + 1) 33 wt_c33 := wv_C_deep (by omega) (wt_isWord hf (d := d))
  have hc27 : wv_C wm_fx sc (d + 1 + 1 + 1 + 1 + 1 + 1) 27 wt_c27 := wv_C_deep (by omega) (wt_addT (d := d))
  have hc46 : wv_C wm_fx sc (d + 1 + 1 + 1 + 1 + 1 + 1) 46 wt_c46 := wv_C_deep (by omega) (wt_addName (d := d))
  refine wv_meth (hh := none) rfl (sp := wv_sp [(31, wt_c31), (32, wt_c32), (33, wt_c33), (27, wt_c27), (46, wt_c46)]) (hd := fun _ => none) (n := 0) (n1 := 300) hm zc_30 rfl (wv_sp_ok (fun q hq => by
    rcases List.mem_cons.mp hq with h | h
    · rw [h]; exact hc31
    rcases List.mem_cons.mp h with h | h
    · rw [h]; exact hc32
    rcases List.mem_cons.mp h with h | h
    · rw [h]; exact hc33
    rcases List.mem_cons.mp h with h | h
    · rw [h]; exact hc27
    rw [List.mem_singleton.mp h]; exact hc46)) ?_ (fun pc P h => by cases h) HR
  have hn4 := hK.2.1
  have hok := wt_K_ok hT hK
  refine ⟨p, rfl, by omega, hok, ?_⟩
  generalize hz : wt_wl (wt_c I) p 400 = z at h ⊢
  have hz4 : z ≤ 400 := by rw [← hz]; exact wt_wl_le _ _ _
  have ez := wi_on (n := z) (by omega)
  have e8 : ((Int8.ofInt 8).toInt32).toInt = 8 := rfl
  refine ⟨fun h1 => ?_, fun h1 => ?_⟩
  · have hz8 : ¬ 8 < z := by rw [wi_le, ez, e8] at h1; omega
    refine ⟨p, z, 1099511627776 + 10, 1099511627777 + 10, [105, 110, 112, 117, 116], rfl, by omega, hz4, hok, hS 10 _ rfl, ?_⟩
    refine ⟨fun w0 => ?_, fun w0 => ?_⟩
    rotate_left
    · have e : ds_word (wt_c I) n p z = (some ((Int8.ofInt 33).toInt32, p, Int32.ofInt 0, Int32.ofInt 0, 0), p + z) := by
        unfold ds_word
        rw [if_neg hz8, if_pos (show (decide (z = 5) && wt_rd (wt_c I) p [105, 110, 112, 117, 116]) = true from wp_b1 w0)]
      rw [e] at h
      exact ⟨ts, n, (0, none), _, p, z, rfl, hT, hK, by omega, by omega, fun I1 L1 a b => h I1 L1 a b⟩
    refine ⟨p, z, 1099511627776 + 12, 1099511627777 + 12, [108, 97, 116, 99, 104], rfl, by omega, hz4, hok, hS 12 _ rfl, ?_⟩
    refine ⟨fun w1 => ?_, fun w1 => ?_⟩
    rotate_left
    · have e : ds_word (wt_c I) n p z = (some ((Int8.ofInt 34).toInt32, p, Int32.ofInt 0, Int32.ofInt 0, 0), p + z) := by
        unfold ds_word
        rw [if_neg hz8, if_neg (by rw [show (decide (z = 5) && wt_rd (wt_c I) p [105, 110, 112, 117, 116]) = false from wp_b0 w0]; decide), if_pos (show (decide (z = 5) && wt_rd (wt_c I) p [108, 97, 116, 99, 104]) = true from wp_b1 w1)]
      rw [e] at h
      exact ⟨ts, n, (0, none), _, p, z, rfl, hT, hK, by omega, by omega, fun I1 L1 a b => h I1 L1 a b⟩
    refine ⟨p, z, 1099511627776 + 14, 1099511627777 + 14, [119, 105, 114, 101], rfl, by omega, hz4, hok, hS 14 _ rfl, ?_⟩
    refine ⟨fun w2 => ?_, fun w2 => ?_⟩
    rotate_left
    · have e : ds_word (wt_c I) n p z = (some ((Int8.ofInt 35).toInt32, p, Int32.ofInt 0, Int32.ofInt 0, 0), p + z) := by
        unfold ds_word
        rw [if_neg hz8, if_neg (by rw [show (decide (z = 5) && wt_rd (wt_c I) p [105, 110, 112, 117, 116]) = false from wp_b0 w0]; decide), if_neg (by rw [show (decide (z = 5) && wt_rd (wt_c I) p [108, 97, 116, 99, 104]) = false from wp_b0 w1]; decide), if_pos (show (decide (z = 4) && wt_rd (wt_c I) p [119, 105, 114, 101]) = true from wp_b1 w2)]
      rw [e] at h
      exact ⟨ts, n, (0, none), _, p, z, rfl, hT, hK, by omega, by omega, fun I1 L1 a b => h I1 L1 a b⟩
    refine ⟨p, z, 1099511627776 + 16, 1099511627777 + 16, [110, 101, 120, 116], rfl, by omega, hz4, hok, hS 16 _ rfl, ?_⟩
    refine ⟨fun w3 => ?_, fun w3 => ?_⟩
    rotate_left
    · have e : ds_word (wt_c I) n p z = (some ((Int8.ofInt 28).toInt32, p, Int32.ofInt 0, Int32.ofInt 0, 0), p + z) := by
        unfold ds_word
        rw [if_neg hz8, if_neg (by rw [show (decide (z = 5) && wt_rd (wt_c I) p [105, 110, 112, 117, 116]) = false from wp_b0 w0]; decide), if_neg (by rw [show (decide (z = 5) && wt_rd (wt_c I) p [108, 97, 116, 99, 104]) = false from wp_b0 w1]; decide), if_neg (by rw [show (decide (z = 4) && wt_rd (wt_c I) p [119, 105, 114, 101]) = false from wp_b0 w2]; decide), if_pos (show (decide (z = 4) && wt_rd (wt_c I) p [110, 101, 120, 116]) = true from wp_b1 w3)]
      rw [e] at h
      exact ⟨ts, n, (0, none), _, p, z, rfl, hT, hK, by omega, by omega, fun I1 L1 a b => h I1 L1 a b⟩
    refine ⟨p, z, 1099511627776 + 18, 1099511627777 + 18, [115, 105, 103, 110, 97, 108], rfl, by omega, hz4, hok, hS 18 _ rfl, ?_⟩
    refine ⟨fun w4 => ?_, fun w4 => ?_⟩
    rotate_left
    · have e : ds_word (wt_c I) n p z = (some ((Int8.ofInt 36).toInt32, p, Int32.ofInt 0, Int32.ofInt 0, 0), p + z) := by
        unfold ds_word
        rw [if_neg hz8, if_neg (by rw [show (decide (z = 5) && wt_rd (wt_c I) p [105, 110, 112, 117, 116]) = false from wp_b0 w0]; decide), if_neg (by rw [show (decide (z = 5) && wt_rd (wt_c I) p [108, 97, 116, 99, 104]) = false from wp_b0 w1]; decide), if_neg (by rw [show (decide (z = 4) && wt_rd (wt_c I) p [119, 105, 114, 101]) = false from wp_b0 w2]; decide), if_neg (by rw [show (decide (z = 4) && wt_rd (wt_c I) p [110, 101, 120, 116]) = false from wp_b0 w3]; decide), if_pos (show (decide (z = 6) && wt_rd (wt_c I) p [115, 105, 103, 110, 97, 108]) = true from wp_b1 w4)]
      rw [e] at h
      exact ⟨ts, n, (0, none), _, p, z, rfl, hT, hK, by omega, by omega, fun I1 L1 a b => h I1 L1 a b⟩
    · have e : ds_word (wt_c I) n p z = (some ((Int8.ofInt 32).toInt32, p, Int32.ofInt 0, Int32.ofInt 0, ds_nm (wt_c I) p z), p + z) := by
        unfold ds_word
        rw [if_neg hz8, if_neg (by rw [show (decide (z = 5) && wt_rd (wt_c I) p [105, 110, 112, 117, 116]) = false from wp_b0 w0]; decide), if_neg (by rw [show (decide (z = 5) && wt_rd (wt_c I) p [108, 97, 116, 99, 104]) = false from wp_b0 w1]; decide), if_neg (by rw [show (decide (z = 4) && wt_rd (wt_c I) p [119, 105, 114, 101]) = false from wp_b0 w2]; decide), if_neg (by rw [show (decide (z = 4) && wt_rd (wt_c I) p [110, 101, 120, 116]) = false from wp_b0 w3]; decide), if_neg (by rw [show (decide (z = 6) && wt_rd (wt_c I) p [115, 105, 103, 110, 97, 108]) = false from wp_b0 w4]; decide)]
      rw [e] at h
      exact ⟨ts, n, (0, none), p, z, rfl, hT, hK, by omega, by omega, hz4, fun I1 L1 a b => h I1 L1 a b⟩
  · have hz8 : 8 < z := by rw [wi_le, ez, e8] at h1; omega
    have e : ds_word (wt_c I) n p z = (some (Int32.ofInt 1, p, Int32.ofInt 0, Int32.ofInt 0, 0), n) := by
      unfold ds_word
      rw [if_pos hz8]
    rw [e] at h
    exact ⟨ts, n, (0, none), p, rfl, hT, hK, by omega, by omega, fun I1 L1 a b => h I1 L1 a b⟩
theorem wt_dummy_b02 : True := trivial
set_option maxRecDepth 100000 in
theorem wM_25 : ∃ cb ci np, pt_mt 25 = some (6, cb, 2, false, some .int, ci, np) := ⟨_, _, _, rfl⟩
set_option maxRecDepth 100000 in
set_option maxHeartbeats 4000000 in
theorem wt_scanOneD {sc : pt_Sc} {d : Nat} (hf : wt_fv sc) : wv_C wm_fx sc (d + 1 + 1 + 1 + 1 + 1 + 1 + 1 + 1) 25 (wt_one 22 ds_st) := by
  rintro as T N I L R q ⟨ts, n, p, rfl, hT, hS, hK, hl, hpn, h⟩ w0 HR
  obtain ⟨cb, ci, np, hm⟩ := wM_25
  have hc26 : wv_C wm_fx sc (d + 1 + 1 + 1 + 1 + 1 + 1 + 1) 26 wt_c26 := wv_C_deep (by omega) (wt_signAt (d := d))
  have hc27 : wv_C wm_fx sc (d + 1 + 1 + 1 + 1 + 1 + 1 + 1) 27 wt_c27 := wv_C_deep (by omega) (wt_addT (d := d))
  have hc29 : wv_C wm_fx sc (d + 1 + 1 + 1 + 1 + 1 + 1 + 1) 29 wt_c29 := wv_C_deep (by omega) (wt_isSmall (d := d))
  have hc30 : wv_C wm_fx sc (d + 1 + 1 + 1 + 1 + 1 + 1 + 1) 30 wt_c30 := wv_C_deep (by omega) (wt_scanWordD hf (d := d))
  have hc32 : wv_C wm_fx sc (d + 1 + 1 + 1 + 1 + 1 + 1 + 1) 32 wt_c32 := wv_C_deep (by omega) (wt_addBad (d := d))
  refine wv_meth (hh := none) rfl (sp := wv_sp [(26, wt_c26), (27, wt_c27), (29, wt_c29), (30, wt_c30), (32, wt_c32)]) (hd := fun _ => none) (n := 0) (n1 := 300) hm zc_25 rfl (wv_sp_ok (fun q hq => by
    rcases List.mem_cons.mp hq with h | h
    · rw [h]; exact hc26
    rcases List.mem_cons.mp h with h | h
    · rw [h]; exact hc27
    rcases List.mem_cons.mp h with h | h
    · rw [h]; exact hc29
    rcases List.mem_cons.mp h with h | h
    · rw [h]; exact hc30
    rw [List.mem_singleton.mp h]; exact hc32)) ?_ (fun pc P h => by cases h) HR
  have hn4 := hK.2.1
  have hok := wt_K_ok hT hK
  refine ⟨p, rfl, by omega, hok, ?_⟩
  refine ⟨fun x => ?_, fun x0 => ?_⟩
  · have e : ds_st (wt_c I) n p = (none, p + 1) := by
      unfold ds_st
      rw [if_pos x]
    rw [e] at h
    have h1 : wt_K I L (ts ++ []) n 0 none := by rw [List.append_nil]; exact hK
    have h2 : q (.inl (some (.int (Int32.ofNat (p + 1))))) T N I L R 0 0 := h I L h1 (wt_A_id _ _)
    rw [← wq_4s] at h2
    exact h2
  refine ⟨fun x => ?_, fun x1 => ?_⟩
  · have e : ds_st (wt_c I) n p = (some ((Int8.ofInt 6).toInt32, p, Int32.ofInt 0, Int32.ofInt 0, 0), p + 1) := by
      unfold ds_st
      rw [x]
      rfl
    rw [e] at h
    exact ⟨ts, n, (0, none), _, p, 1, rfl, hT, hK, by omega, by omega, fun I1 L1 a b => h I1 L1 a b⟩
  refine ⟨fun x => ?_, fun x2 => ?_⟩
  · have e : ds_st (wt_c I) n p = (some ((Int8.ofInt 7).toInt32, p, Int32.ofInt 0, Int32.ofInt 0, 0), p + 1) := by
      unfold ds_st
      rw [x]
      rfl
    rw [e] at h
    exact ⟨ts, n, (0, none), _, p, 1, rfl, hT, hK, by omega, by omega, fun I1 L1 a b => h I1 L1 a b⟩
  refine ⟨fun x => ?_, fun x3 => ?_⟩
  · have e : ds_st (wt_c I) n p = (some ((Int8.ofInt 15).toInt32, p, Int32.ofInt 0, Int32.ofInt 0, 0), p + 1) := by
      unfold ds_st
      rw [x]
      rfl
    rw [e] at h
    exact ⟨ts, n, (0, none), _, p, 1, rfl, hT, hK, by omega, by omega, fun I1 L1 a b => h I1 L1 a b⟩
  refine ⟨fun x => ?_, fun x4 => ?_⟩
  · have e : ds_st (wt_c I) n p = (some ((Int8.ofInt 16).toInt32, p, Int32.ofInt 0, Int32.ofInt 0, 0), p + 1) := by
      unfold ds_st
      rw [x]
      rfl
    rw [e] at h
    exact ⟨ts, n, (0, none), _, p, 1, rfl, hT, hK, by omega, by omega, fun I1 L1 a b => h I1 L1 a b⟩
  refine ⟨fun x => ?_, fun x5 => ?_⟩
  · have e : ds_st (wt_c I) n p = (some (Int32.ofInt 4, p, Int32.ofInt 0, Int32.ofInt 0, 0), p + 1) := by
      unfold ds_st
      rw [x]
      rfl
    rw [e] at h
    exact ⟨ts, n, (0, none), _, p, 1, rfl, hT, hK, by omega, by omega, fun I1 L1 a b => h I1 L1 a b⟩
  refine ⟨fun x => ?_, fun x6 => ?_⟩
  · have e : ds_st (wt_c I) n p = (some (Int32.ofInt 5, p, Int32.ofInt 0, Int32.ofInt 0, 0), p + 1) := by
      unfold ds_st
      rw [x]
      rfl
    rw [e] at h
    exact ⟨ts, n, (0, none), _, p, 1, rfl, hT, hK, by omega, by omega, fun I1 L1 a b => h I1 L1 a b⟩
  refine ⟨fun x => ?_, fun x7 => ?_⟩
  · have e : ds_st (wt_c I) n p = (some ((Int8.ofInt 9).toInt32, p, Int32.ofInt 0, Int32.ofInt 0, 0), p + 1) := by
      unfold ds_st
      rw [x]
      rfl
    rw [e] at h
    exact ⟨ts, n, (0, none), _, p, 1, rfl, hT, hK, by omega, by omega, fun I1 L1 a b => h I1 L1 a b⟩
  refine ⟨fun x => ?_, fun x8 => ?_⟩
  · have e : ds_st (wt_c I) n p = (some ((Int8.ofInt 37).toInt32, p, Int32.ofInt 0, Int32.ofInt 0, 0), p + 1) := by
      unfold ds_st
      rw [x]
      rfl
    rw [e] at h
    exact ⟨ts, n, (0, none), _, p, 1, rfl, hT, hK, by omega, by omega, fun I1 L1 a b => h I1 L1 a b⟩
  refine ⟨fun x => ?_, fun x9 => ?_⟩
  · have e : ds_st (wt_c I) n p = (some ((Int8.ofInt 38).toInt32, p, Int32.ofInt 0, Int32.ofInt 0, 0), p + 1) := by
      unfold ds_st
      rw [x]
      rfl
    rw [e] at h
    exact ⟨ts, n, (0, none), _, p, 1, rfl, hT, hK, by omega, by omega, fun I1 L1 a b => h I1 L1 a b⟩
  refine ⟨fun x => ?_, fun x10 => ?_⟩
  · have e : ds_st (wt_c I) n p = (some ((Int8.ofInt 8).toInt32, p, Int32.ofInt 0, Int32.ofInt 0, 0), p + 1) := by
      unfold ds_st
      rw [x]
      rfl
    rw [e] at h
    exact ⟨ts, n, (0, none), _, p, 1, rfl, hT, hK, by omega, by omega, fun I1 L1 a b => h I1 L1 a b⟩
  have hkn : ds_k (wt_c I p).toInt = none := by
    unfold ds_k
    rw [if_neg x1, if_neg x2, if_neg x3, if_neg x4, if_neg x5, if_neg x6, if_neg x7, if_neg x8, if_neg x9, if_neg x10]
  refine ⟨p, rfl, by omega, hok, ?_⟩
  refine ⟨fun y => ?_, fun y => ?_⟩
  · have e : ds_st (wt_c I) n p = (some (Int32.ofInt 1, p, Int32.ofInt 0, Int32.ofInt 0, 0), n) := by
      unfold ds_st
      rw [if_neg x0, hkn]
      show (if wt_sml (wt_c I) p = true then _ else _) = _
      rw [if_neg (by rw [wp_b0 y]; decide)]
    rw [e] at h
    exact ⟨ts, n, (0, none), p, rfl, hT, hK, by omega, by omega, fun I1 L1 a b => h I1 L1 a b⟩
  · have e : ds_st (wt_c I) n p = ds_word (wt_c I) n p (wt_wl (wt_c I) p 400) := by
      unfold ds_st
      rw [if_neg x0, hkn]
      show (if wt_sml (wt_c I) p = true then _ else _) = _
      rw [if_pos (wp_b1 y)]
    rw [e] at h
    exact ⟨ts, n, p, rfl, hT, hS, hK, hl, hpn, fun I1 L1 a b => h I1 L1 a b⟩
def wt_hsc (o : Nat) (sf : (Nat → Int32) → Nat → Nat → Option wt_t × Nat) (n : Nat) (T : wv_T) (N : Nat) (I : Nat → Nat → Int32) (L : Nat → Nat → Int64) (R : Nat → Nat → Option Nat) : Nat → Option (Nat → wv_P) := fun pc =>
  if pc = 11 then some (fun m lv st T1 N1 I1 L1 R1 nc ns => ∃ (k p : Nat) (ts : List wt_t), lv = [some (.ref o), some (.int (Int32.ofNat p)), some (.int (Int32.ofNat k)), none] ∧ st = [] ∧ T1 = T ∧ N1 = N ∧ R1 = R ∧ nc = 0 ∧ ns = 0 ∧ k ≤ 400 ∧ m = 400 - k ∧ p ≤ 1000 ∧ wt_K I1 L1 ts n 0 none ∧ wt_A I L I1 L1 ∧ ts.length ≤ k ∧ ts ++ wt_lex (sf (wt_c I) n) n (400 - k) p = wt_lex (sf (wt_c I) n) n 400 0)
  else none
/-- a whole scan -/
def wt_scn (o : Nat) (sf : (Nat → Int32) → Nat → Nat → Option wt_t × Nat) : wv_c1 := fun as T N I L R q => ∃ n : Nat, as = [.ref o] ∧ wm_T T ∧ wt_S T I R ∧ I 1 6 = Int32.ofNat n ∧ n ≤ 400 ∧ (∀ p, p < n → (sf (wt_c I) n p).2 ≤ 1000) ∧ ∀ I1 L1, wt_K I1 L1 (wt_lex (sf (wt_c I) n) n 400 0) n 0 none → wt_A I L I1 L1 → q (.inl none) T N I1 L1 R 0 0
set_option maxRecDepth 100000 in
theorem wM_22 : ∃ cb ci np, pt_mt 22 = some (6, cb, 3, false, none, ci, np) := ⟨_, _, _, rfl⟩
set_option maxRecDepth 100000 in
set_option maxHeartbeats 4000000 in
theorem wt_scanD {sc : pt_Sc} {d : Nat} (hf : wt_fv sc) : wv_C wm_fx sc (d + 1 + 1 + 1 + 1 + 1 + 1 + 1 + 1 + 1) 22 (wt_scn 22 ds_st) := by
  rintro as T N I L R q ⟨n, rfl, hT, hS, h6, hn, hb, h⟩ w0 HR
  obtain ⟨cb, ci, np, hm⟩ := wM_22
  have hc23 : wv_C wm_fx sc (d + 1 + 1 + 1 + 1 + 1 + 1 + 1 + 1) 23 wt_c23 := wv_C_deep (by omega) (wt_restart (d := d))
  have hc24 : wv_C wm_fx sc (d + 1 + 1 + 1 + 1 + 1 + 1 + 1 + 1) 24 wp_c24 := wv_C_deep (by omega) (wp_count (d := d))
  have hc25 : wv_C wm_fx sc (d + 1 + 1 + 1 + 1 + 1 + 1 + 1 + 1) 25 (wt_one 22 ds_st) := wv_C_deep (by omega) (wt_scanOneD hf (d := d))
  have hc47 : wv_C wm_fx sc (d + 1 + 1 + 1 + 1 + 1 + 1 + 1 + 1) 47 wt_c47 := wv_C_deep (by omega) (wt_finish (d := d))
  refine wv_meth (hh := none) rfl (sp := wv_sp [(23, wt_c23), (24, wp_c24), (25, wt_one 22 ds_st), (47, wt_c47)]) (hd := wt_hsc 22 ds_st n T N I L R) (n := 300) (n1 := 300) hm zc_22 rfl (wv_sp_ok (fun q hq => by
    rcases List.mem_cons.mp hq with h | h
    · rw [h]; exact hc23
    rcases List.mem_cons.mp h with h | h
    · rw [h]; exact hc24
    rcases List.mem_cons.mp h with h | h
    · rw [h]; exact hc25
    rw [List.mem_singleton.mp h]; exact hc47)) ?_ ?_ HR
  · refine ⟨n, rfl, h6, hn, fun I1 hK hA => ?_⟩
    exact ⟨400, 0, 0, [], rfl, rfl, rfl, rfl, rfl, rfl, rfl, Nat.zero_le _, rfl, Nat.zero_le _, hK, hA, Nat.le_refl _, rfl⟩
  · intro pc P hP m lv st T1 N1 I1 L1 R1 nc ns hh
    unfold wt_hsc at hP
    split at hP
    · cases hP
      rename_i hpc
      subst hpc
      obtain ⟨k, p, ts, rfl, rfl, rfl, rfl, rfl, rfl, rfl, hk, hm, hp, hK, hA, hl, he⟩ := hh
      have ek := wi_on (n := k) (by omega)
      have ep := wi_on (n := p) (by omega)
      have en := wi_on (n := n) (by omega)
      have e400 : ((Int16.ofInt 400).toInt32).toInt = 400 := rfl
      have hcc : wt_c I1 = wt_c I := wt_A_c hA
      have hfin : wt_lex (ds_st (wt_c I) n) n (400 - k) p = [(Int32.ofInt 0, n, Int32.ofInt 0, Int32.ofInt 0, 0)] → ∀ I2 L2, wt_K I2 L2 (ts ++ [(Int32.ofInt 0, n, Int32.ofInt 0, Int32.ofInt 0, 0)]) n 0 none → wt_A I1 L1 I2 L2 → q (.inl none) T1 N1 I2 L2 R1 0 0 := by
        intro e I2 L2 a b
        rw [e] at he
        rw [he] at a
        exact h I2 L2 a (wt_A_tr hA b)
      refine ⟨fun h1 => ?_, fun h1 => ?_⟩
      · have e : k = 400 := by rw [wi_le, ek, e400] at h1; omega
        exact ⟨ts, n, (0, none), rfl, hT, hK, by omega, hfin (by rw [e]; rfl)⟩
      · have hk4 : k < 400 := by rw [wi_le, ek, e400] at h1; omega
        have hs : 400 - k = (400 - (k + 1)) + 1 := by omega
        refine ⟨rfl, ?_⟩
        rw [wt_A_6 hA, h6]
        refine ⟨fun h2 => ?_, fun h2 => ?_⟩
        · have hpn : n ≤ p := by rw [wi_le, ep, en] at h2; omega
          refine ⟨ts, n, (0, none), rfl, hT, hK, by omega, hfin ?_⟩
          rw [hs]
          unfold wt_lex
          rw [if_neg (by omega)]
        · have hpn : p < n := by rw [wi_le, ep, en] at h2; omega
          rw [hs] at he
          unfold wt_lex at he
          rw [if_pos hpn] at he
          refine ⟨ts, n, p, rfl, hT, wt_A_S hA hS, hK, by omega, hpn, fun I2 L2 a b => ?_⟩
          rw [hcc] at a ⊢
          have hb2 := hb p hpn
          cases hst : ds_st (wt_c I) n p with
          | mk o p2 =>
            rw [hst] at a he hb2
            cases o with
            | none =>
              have a2 : wt_K I2 L2 (ts ++ []) n 0 none := a
              rw [List.append_nil] at a2
              exact ⟨400 - (k + 1), by omega, k + 1, p2, ts, by rw [← wq_4s]; rfl, rfl, rfl, rfl, rfl, rfl, rfl, by omega, rfl, hb2, a2, wt_A_tr hA b, by omega, he⟩
            | some t =>
              exact ⟨400 - (k + 1), by omega, k + 1, p2, ts ++ [t], by rw [← wq_4s]; rfl, rfl, rfl, rfl, rfl, rfl, rfl, by omega, rfl, hb2, a, wt_A_tr hA b, by rw [List.length_append]; simp only [List.length_singleton]; omega, by rw [List.append_assoc]; exact he⟩
    · cases hP
