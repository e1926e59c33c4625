/-! ===== the reference: put ===== -/
/-- one of four bytes -/
def wb (s : Int32) (j : Nat) : Int32 := (s >>> (Int32.ofNat (8 * j) &&& 31)) &&& (Int16.ofInt 255).toInt32
/-- no sign of a text -/
def wb_bad (c : Int32) : Bool := decide (¬ c = 0 ∧ (c < 32 ∨ 126 < c))
def wb_cnt (s : Int32) : Nat → Nat
  | 0 => 0
  | j + 1 => wb_cnt s j + (if wb s j = 0 then 0 else 1)
def wb_any (s : Int32) : Nat → Bool
  | 0 => false
  | j + 1 => wb_any s j || wb_bad (wb s j)
theorem wb_cnt_le (s : Int32) : ∀ j, wb_cnt s j ≤ j
  | 0 => Nat.le_refl _
  | j + 1 => by
    have := wb_cnt_le s j
    unfold wb_cnt
    split <;> omega
/-- a text with j bytes more: a is the object with its size at place k, b its text -/
def wb_ap (a k b : Nat) (s : Int32) (I : Nat → Nat → Int32) : Nat → Nat → Nat → Int32
  | 0 => I
  | j + 1 => if wb s j = 0 then wb_ap a k b s I j else wv_u (wv_u (wb_ap a k b s I j) b (wb_ap a k b s I j a k).toNatClampNeg (wb s j)) a k (wb_ap a k b s I j a k + Int32.ofInt 1)
theorem wb_ap_n {a k b : Nat} {s : Int32} {I : Nat → Nat → Int32} (hab : ¬ a = b) (h0 : 0 ≤ (I a k).toInt) (h1 : (I a k).toInt ≤ 400) : ∀ j, j ≤ 4 → (wb_ap a k b s I j a k).toInt = (I a k).toInt + wb_cnt s j
  | 0, _ => by simp [wb_ap, wb_cnt]
  | j + 1, hj => by
    have ih := wb_ap_n (s := s) hab h0 h1 j (by omega)
    have hc := wb_cnt_le s j
    unfold wb_ap wb_cnt
    split
    · rw [ih]
      omega
    · rw [wv_u_at, wi_add, ih, wi_of, wr_id (x := 1) (by omega) (by omega), wr_id (by omega) (by omega)]
      omega
def wp_c345 : wv_c1 := fun as T N I L R q => ∃ b1 b2 : Int32, as = [.ref 460, .int b1, .int b2] ∧ (if b1 = 0 then (if b2 = 0 then q (.inl (some (.int 0))) T N (wv_u I 460 0 0) L R 0 0 else q (.inl (some (.int 1))) T N (wv_u I 460 0 2) L R 0 0) else q (.inl (some (.int 1))) T N (wv_u I 460 0 1) L R 0 0)
set_option maxRecDepth 100000 in
theorem wp_m345 : ∃ cb ci np, pt_mt 345 = some (32, cb, 3, false, some .boolean, ci, np) := ⟨_, _, _, rfl⟩
set_option maxRecDepth 100000 in
theorem wp_refuse {sc : pt_Sc} {d : Nat} : wv_C wm_fx sc (d + 1) 345 wp_c345 := by
  rintro as T N I L R q ⟨b1, b2, rfl, h⟩ w HR
  obtain ⟨cb, ci, np, hm⟩ := wp_m345
  refine wv_meth (hh := none) rfl (sp := fun _ _ _ _ _ _ _ _ => False) (hd := fun _ => none) (n := 0) (n1 := 100) hm zc_345 rfl (fun k as T N I L R q h => by cases h) ?_ (fun pc P h => by cases h) HR
  refine ⟨?_, ?_⟩
  · intro h1
    rw [if_pos h1] at h
    refine ⟨?_, ?_⟩
    · intro h2
      rw [if_pos h2] at h
      refine ⟨?_, ?_⟩
      · intro _
        exact ⟨⟨rfl, rfl⟩, h⟩
      · intro h3
        exact (h3 (by rw [wv_u_at]; decide)).elim
    · intro h2
      rw [if_neg h2] at h
      refine ⟨?_, ?_⟩
      · intro h3
        rw [wv_u_at] at h3
        exact ((by decide : ¬ (Int32.ofInt 2 ≤ 0)) h3).elim
      · intro _
        exact ⟨⟨rfl, rfl⟩, h⟩
  · intro h1
    rw [if_neg h1] at h
    refine ⟨?_, ?_⟩
    · intro h3
      rw [wv_u_at] at h3
      exact ((by decide : ¬ (Int32.ofInt 1 ≤ 0)) h3).elim
    · intro _
      exact ⟨⟨rfl, rfl⟩, h⟩
