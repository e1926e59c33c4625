/-! ===== the law's loop ===== -/
def wL_pcs : List (Nat × Nat) := [(156, 0), (212, 1), (248, 2), (304, 3), (360, 4), (371, 5), (427, 6), (514, 7), (601, 8), (657, 9), (737, 10), (817, 11), (885, 12), (941, 13), (1016, 14), (1029, 15), (1042, 16), (1098, 17), (1154, 18), (1202, 19), (1270, 20), (1346, 21), (1394, 22), (1462, 23), (1530, 24), (1598, 25)]
section WL
variable (Rel : wv_T → Nat → (Nat → Nat → Int32) → (Nat → Nat → Int64) → (Nat → Nat → Option Nat) → Nat → Nat → Nat → Prop) (xs : Nat → Int32) (Lg : Nat)
def wL_lv (i : Nat) (x5 x6 : Option Value) : List (Option Value) := [some (.ref 1099511627776), some (.ref 0), some (.ref 460), some (.ref 536), some (.int (Int32.ofNat i)), x5, x6]
/-- the law stands before a call: i numbers of the script are done -/
def wL_P (op : Option Nat) : Nat → wv_P := fun m lv st T N I L R nc ns => ∃ (i : Nat) (x5 x6 : Option Value), lv = wL_lv i x5 x6 ∧ st = [] ∧ T 1099511627776 = some (.inr (0, Lg)) ∧ (∀ j, j < Lg → I 1099511627776 j = xs j) ∧ Rel T N I L R nc ns i ∧ (match op with
  | none => i ≤ Lg + 4 ∧ m = 2 * (4000 - i) + 1
  | some k => i + 4 ≤ Lg ∧ m = 2 * (4000 - i) ∧ xs i &&& 31 = Int32.ofNat k)
def wL_hd : Nat → Option (Nat → wv_P) := fun pc => if pc = 23 then some (wL_P Rel xs Lg none) else (pt_look wL_pcs pc).map fun k => wL_P Rel xs Lg (some k)
end WL
theorem wL_of {n : Nat} (h : n ≤ 3000) : (Int32.ofNat n).toInt = n := by
  exact Int32.toInt_ofNat_of_lt (by omega)
theorem wv_ts_of {x : Int} {go : Int → Prop} {d : Int} : ∀ (l : List Int) (lo : Int), (∀ (k : Nat) (off : Int), l[k]? = some off → x = lo + k → go off) → (x < lo ∨ lo + l.length ≤ x → go d) → wv_ts x go d lo l
  | [], lo, _, h2 => h2 (by simp only [List.length_nil]; omega)
  | a :: t, lo, h1, h2 => by
    refine ⟨fun h => h1 0 a rfl (by omega), fun h => ?_⟩
    refine wv_ts_of t (lo + 1) (fun k off hk hx => h1 (k + 1) off hk (by omega)) (fun hc => h2 ?_)
    simp only [List.length_cons]
    omega
theorem wL_4s (j : Nat) : Int32.ofNat j + Int32.ofInt 4 = Int32.ofNat (j + 4) := by
  rw [Int32.ofNat_add]
  rfl
set_option maxRecDepth 100000 in
set_option maxHeartbeats 4000000 in
/-- the head of the loop: on to a call, past it, or at the end -/
theorem wL_head {Rel : wv_T → Nat → (Nat → Nat → Int32) → (Nat → Nat → Int64) → (Nat → Nat → Option Nat) → Nat → Nat → Nat → Prop} {xs : Nat → Int32} {Lg : Nat} {fv : Value} {sp : wv_K} {q : wv_Q} (hLg : Lg ≤ 2048) (hmono : ∀ T N I L R nc ns i, Rel T N I L R nc ns i → Rel T N I L R nc ns (i + 4)) (hq : ∀ T N I L R nc ns i, i ≤ 2052 → Rel T N I L R nc ns i → q (.inl (some (.int 1))) T N I L R nc ns) :
    ∀ m lv st T N I L R nc ns, wL_P Rel xs Lg none m lv st T N I L R nc ns → wv_S wm_fx fv none sp 0 7 false (some .boolean) zt_0 q (wv wm_fx fv none sp 0 7 false (some .boolean) zt_0 (wv_h2 (wL_hd Rel xs Lg) m) q 100) (zk_at zt_0 23) lv st T N I L R nc ns := by
  rintro m lv st T N I L R nc ns ⟨i, x5, x6, rfl, rfl, hT, hx, hR, hi, hm⟩
  have ei := wL_of (n := i) (by omega)
  have el := wL_of (n := Lg) (by omega)
  refine ⟨_, _, hT, ?_, ?_⟩
  · intro hc
    exact ⟨⟨rfl, rfl⟩, hq _ _ _ _ _ _ _ _ (by omega) hR⟩
  · intro hc
    have hlt : i + 4 ≤ Lg := by
      rw [wi_lt, wi_sub, ei, el, wi_of, wr_id (x := 4) (by omega) (by omega), wr_id (by omega) (by omega)] at hc
      omega
    have hxi : I 1099511627776 (Int32.ofNat i).toNatClampNeg = xs i := by
      rw [wi_nat, ei]
      exact hx i (by omega)
    refine ⟨_, hT, ⟨by rw [wi_le, ei, wi_0]; omega, by rw [ei]; omega⟩, ?_⟩
    have fin : ∀ k : Nat, (I 1099511627776 (Int32.ofNat i).toNatClampNeg &&& (Int8.ofInt 31).toInt32).toInt = (Int32.ofNat k).toInt → ∃ m1, m1 < m ∧ wL_P Rel xs Lg (some k) m1 (wL_lv i x5 x6) [] T N I L R nc ns := by
      intro k hk
      refine ⟨2 * (4000 - i), by omega, i, x5, x6, rfl, rfl, hT, hx, hR, hlt, rfl, ?_⟩
      rw [← hxi]
      exact wi_eq.mpr hk
    refine wv_ts_of _ _ ?_ ?_
    · intro k off hk hxk
      match k, hk, hxk with
      | 0, hk, hxk => cases hk; exact fin 0 (by rw [hxk]; rfl)
      | 1, hk, hxk => cases hk; exact fin 1 (by rw [hxk]; rfl)
      | 2, hk, hxk => cases hk; exact fin 2 (by rw [hxk]; rfl)
      | 3, hk, hxk => cases hk; exact fin 3 (by rw [hxk]; rfl)
      | 4, hk, hxk => cases hk; exact fin 4 (by rw [hxk]; rfl)
      | 5, hk, hxk => cases hk; exact fin 5 (by rw [hxk]; rfl)
      | 6, hk, hxk => cases hk; exact fin 6 (by rw [hxk]; rfl)
      | 7, hk, hxk => cases hk; exact fin 7 (by rw [hxk]; rfl)
      | 8, hk, hxk => cases hk; exact fin 8 (by rw [hxk]; rfl)
      | 9, hk, hxk => cases hk; exact fin 9 (by rw [hxk]; rfl)
      | 10, hk, hxk => cases hk; exact fin 10 (by rw [hxk]; rfl)
      | 11, hk, hxk => cases hk; exact fin 11 (by rw [hxk]; rfl)
      | 12, hk, hxk => cases hk; exact fin 12 (by rw [hxk]; rfl)
      | 13, hk, hxk => cases hk; exact fin 13 (by rw [hxk]; rfl)
      | 14, hk, hxk => cases hk; exact fin 14 (by rw [hxk]; rfl)
      | 15, hk, hxk => cases hk; exact fin 15 (by rw [hxk]; rfl)
      | 16, hk, hxk => cases hk; exact fin 16 (by rw [hxk]; rfl)
      | 17, hk, hxk => cases hk; exact fin 17 (by rw [hxk]; rfl)
      | 18, hk, hxk => cases hk; exact fin 18 (by rw [hxk]; rfl)
      | 19, hk, hxk => cases hk; exact fin 19 (by rw [hxk]; rfl)
      | 20, hk, hxk => cases hk; exact fin 20 (by rw [hxk]; rfl)
      | 21, hk, hxk => cases hk; exact fin 21 (by rw [hxk]; rfl)
      | 22, hk, hxk => cases hk; exact fin 22 (by rw [hxk]; rfl)
      | 23, hk, hxk => cases hk; exact fin 23 (by rw [hxk]; rfl)
      | 24, hk, hxk => cases hk; exact fin 24 (by rw [hxk]; rfl)
      | 25, hk, hxk => cases hk; exact fin 25 (by rw [hxk]; rfl)
      | k + 26, hk, hxk => cases hk
    · intro _
      refine ⟨2 * (4000 - (i + 4)) + 1, by omega, i + 4, x5, x6, ?_, rfl, hT, hx, hmono _ _ _ _ _ _ _ _ hR, by omega, rfl⟩
      unfold wL_lv
      rw [← wL_4s]
      rfl
