/-! ===== the law's calls: end ===== -/
/-- past a call -/
theorem wL_fin {Rel : wv_T → Nat → (Nat → Nat → Int32) → (Nat → Nat → Int64) → (Nat → Nat → Option Nat) → Nat → Nat → Nat → Prop} {xs : Nat → Int32} {Lg i m : Nat} {T1 : wv_T} {N1 : Nat} {I I1 : Nat → Nat → Int32} {L1 : Nat → Nat → Int64} {R1 : Nat → Nat → Option Nat} {c1 s1 : Nat} {y5 y6 : Option Value} (hLg : Lg ≤ 2048) (hi : i + 4 ≤ Lg) (hm : m = 2 * (4000 - i)) (hx : ∀ j, j < Lg → I 1099511627776 j = xs j) (hT : T1 1099511627776 = some (.inr (0, Lg))) (hI : ∀ j, I1 1099511627776 j = I 1099511627776 j) (hR1 : Rel T1 N1 I1 L1 R1 c1 s1 (i + 4)) :
    ∃ m1, m1 < m ∧ wL_P Rel xs Lg none m1 [some (.ref 1099511627776), some (.ref 0), some (.ref 460), some (.ref 536), some (.int (Int32.ofNat i + Int32.ofInt 4)), y5, y6] [] T1 N1 I1 L1 R1 c1 s1 :=
  ⟨2 * (4000 - (i + 4)) + 1, by omega, i + 4, _, _, by rw [wL_4s]; rfl, rfl, hT, fun j hj => by rw [hI]; exact hx j hj, hR1, by omega, rfl⟩
def wL_1 (Rel : wv_T → Nat → (Nat → Nat → Int32) → (Nat → Nat → Int64) → (Nat → Nat → Option Nat) → Nat → Nat → Nat → Prop) : Prop := ∀ T N I L R nc ns i, i ≤ 2044 → Rel T N I L R nc ns i → I 1 6 = I 460 2 ∧ ∀ n : Int32, (n < 0 ∨ I 460 2 < n → Rel T N (wv_u I 460 0 1) L R (nc + 1) (ns + 6) (i + 4)) ∧ (¬ (n < 0 ∨ I 460 2 < n) → Rel T N (wv_u (wv_u (wv_u I 1 6 n) 460 0 0) 460 2 n) L R nc ns (i + 4))
set_option maxRecDepth 100000 in
set_option maxHeartbeats 4000000 in
theorem wL_case1 {Rel : wv_T → Nat → (Nat → Nat → Int32) → (Nat → Nat → Int64) → (Nat → Nat → Option Nat) → Nat → Nat → Nat → Prop} {xs : Nat → Int32} {Lg : Nat} {fv : Value} {q : wv_Q} {sp : wv_K} (hLg : Lg ≤ 2048) (H : wL_1 Rel)
    (s97 : ∀ as T N I L R q, wl_c97 as T N I L R q → sp 97 as T N I L R q) (s346 : ∀ as T N I L R q, wp_c346 as T N I L R q → sp 346 as T N I L R q) (s343 : ∀ as T N I L R q, wp_c343 as T N I L R q → sp 343 as T N I L R q) :
    ∀ m lv st T N I L R nc ns, wL_P Rel xs Lg (some 1) m lv st T N I L R nc ns → wv_S wm_fx fv none sp 0 7 false (some .boolean) zt_0 q (wv wm_fx fv none sp 0 7 false (some .boolean) zt_0 (wv_h2 (wL_hd Rel xs Lg) m) q 100) (zk_at zt_0 212) lv st T N I L R nc ns := by
  rintro m lv st T N I L R nc ns ⟨i, x5, x6, rfl, rfl, hT, hx, hR, hi, hm, hop⟩
  obtain ⟨hsz, hH⟩ := H T N I L R nc ns i (by omega) hR
  have e1 : I 1099511627776 (Int32.ofNat i + Int32.ofInt 1).toNatClampNeg = xs (i + 1) := (wL_x (k := 1) hx hLg hi (by omega)).1
  have b1 : 0 ≤ Int32.ofNat i + Int32.ofInt 1 ∧ (Int32.ofNat i + Int32.ofInt 1).toInt < Lg := (wL_x (k := 1) hx hLg hi (by omega)).2
  obtain ⟨r1, r2⟩ := hH (xs (i + 1))
  refine ⟨_, hT, b1, ?_⟩
  refine s97 _ _ _ _ _ _ _ ⟨_, rfl, ?_⟩
  rw [e1, hsz]
  by_cases ha : xs (i + 1) < 0 ∨ I 460 2 < xs (i + 1)
  · rw [if_pos ha]
    refine ⟨_, hT, b1, ?_⟩
    refine s346 _ _ _ _ _ _ _ ⟨_, rfl, ?_⟩
    rw [e1, if_pos ha]
    refine s343 _ _ _ _ _ _ _ ⟨rfl, ?_⟩
    refine ⟨fun _ => ?_, fun h => (h (wv_u_at _ _ _ _)).elim⟩
    exact wL_fin hLg hi hm hx hT (fun j => wv_u_no _ _ (by omega)) (r1 ha)
  · rw [if_neg ha]
    have f1 : ∀ j, wv_u I 1 6 (xs (i + 1)) 1099511627776 j = I 1099511627776 j := fun j => wv_u_no _ _ (by omega)
    have f2 : wv_u I 1 6 (xs (i + 1)) 460 2 = I 460 2 := wv_u_no _ _ (by omega)
    refine ⟨_, hT, b1, ?_⟩
    refine s346 _ _ _ _ _ _ _ ⟨_, rfl, ?_⟩
    rw [f1, e1, f2, if_neg ha]
    refine s343 _ _ _ _ _ _ _ ⟨rfl, ?_⟩
    refine ⟨fun _ => ?_, fun h => (h ?_).elim⟩
    · exact wL_fin hLg hi hm hx hT (fun j => by rw [wv_u_no _ _ (by omega), wv_u_no _ _ (by omega), f1]) (r2 ha)
    · show wv_u (wv_u (wv_u I 1 6 (xs (i + 1))) 460 0 0) 460 2 (xs (i + 1)) 460 0 = 0
      rw [wv_u_no _ _ (by omega), wv_u_at]
