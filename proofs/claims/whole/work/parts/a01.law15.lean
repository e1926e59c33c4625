/-! ===== the law: readNumbers ===== -/
/-- where a text of a design finds things: n signs, C the design, D the spare one -/
def wL_X (T : wv_T) (I : Nat → Nat → Int32) (R : Nat → Nat → Option Nat) (n C D : Nat) : Prop := wm_T T ∧ wt_S T I R ∧ R 0 14 = some C ∧ R 0 15 = some D ∧ wd_D T R D ∧ 7 < D ∧ D + 7 < 460 ∧ (D + 7 < 325 ∨ 333 < D) ∧ T 325 = some (.inl 11) ∧ I 1 6 = Int32.ofNat n ∧ n ≤ 400 ∧ wp_Y T I (wt_c I) n
/-- what the reference leaves of a text of a design -/
def wL_15m (ts : List wt_t) (n : Nat) (I I1 : Nat → Nat → Int32) : Prop := (∀ c j, ¬ (c = 460 ∧ (j = 0 ∨ j = 2 ∨ j = 4 ∨ j = 5 ∨ j = 8 ∨ j = 101 ∨ j = 102 ∨ j = 103 ∨ j = 56 ∨ j = 57 ∨ j = 58 ∨ j = 66)) → ¬ (496 ≤ c ∧ c ≤ 500) → ¬ (530 ≤ c ∧ c ≤ 534) → I1 c j = I c j) ∧ I1 460 0 = Int32.ofInt 0 ∧ I1 460 2 = Int32.ofInt 0 ∧ (nmFault ts n = none → wm_D ts n I1) ∧ (¬ nmFault ts n = none → ∀ c j, (c = 460 ∧ (j = 56 ∨ j = 57 ∨ j = 58 ∨ j = 66) ∨ (496 ≤ c ∧ c ≤ 500)) → ¬ (c = 460 ∧ j = 2) → I1 c j = I c j)
theorem wd_tI_no {f : Option Nat} {I : Nat → Nat → Int32} {c j : Nat} (h1 : ¬ (c = 1 ∧ j = 6)) (h2 : ¬ (c = 325 ∧ j = 8)) : wd_tI f I c j = I c j := by
  unfold wd_tI
  split
  · rw [wv_u_no _ _ h2, wv_u_no _ _ h1]
  · rw [wv_u_no _ _ h1]
def wL_15 (Rel : wv_T → Nat → (Nat → Nat → Int32) → (Nat → Nat → Int64) → (Nat → Nat → Option Nat) → Nat → Nat → Nat → Prop) : Prop := ∀ T N I L R nc ns i, i ≤ 2044 → Rel T N I L R nc ns i → ∃ n C D, wL_X T I R n C D ∧ ∀ I1 L1 I2, nmOut I n D I1 → wd_G D I L I1 L1 → wL_15m (nmTs I n) n (wd_tI (nmFault (nmTs I n) n) I1) I2 → Rel T N I2 L1 (wd_tR (nmFault (nmTs I n) n) C D R) nc ns (i + 4)
set_option maxRecDepth 100000 in
set_option maxHeartbeats 4000000 in
theorem wL_case15 {Rel : wv_T → Nat → (Nat → Nat → Int32) → (Nat → Nat → Int64) → (Nat → Nat → Option Nat) → Nat → Nat → Nat → Prop} {xs : Nat → Int32} {Lg : Nat} {fv : Value} {q : wv_Q} {sp : wv_K} (hLg : Lg ≤ 2048) (H : wL_15 Rel)
    (s81 : ∀ as T N I L R q, wq_c81 as T N I L R q → sp 81 as T N I L R q) (s486 : ∀ as T N I L R q, wp_c486 as T N I L R q → sp 486 as T N I L R q) :
    ∀ m lv st T N I L R nc ns, wL_P Rel xs Lg (some 15) m lv st T N I L R nc ns → wv_S wm_fx fv none sp 0 7 false (some .boolean) zt_0 q (wv wm_fx fv none sp 0 7 false (some .boolean) zt_0 (wv_h2 (wL_hd Rel xs Lg) m) q 100) (zk_at zt_0 1029) lv st T N I L R nc ns := by
  rintro m lv st T N I L R nc ns ⟨i, x5, x6, rfl, rfl, hT, hx, hR, hi, hm, hop⟩
  obtain ⟨n, C, D, ⟨hwT, hS, hC, hD0, hD, hD7, hDB, hDr, h325, h6, hn, hY⟩, r1⟩ := H T N I L R nc ns i (by omega) hR
  refine s81 _ _ _ _ _ _ _ ⟨n, C, D, rfl, hwT, hS, hC, hD0, hD, hD7, by omega, h325, h6, hn, fun I1 L1 g1 g2 g3 => ?_⟩
  have hr := r1 I1 L1
  obtain ⟨ft, hft⟩ : ∃ f, nmFault (nmTs I n) n = f := ⟨_, rfl⟩
  have fI : ∀ c j, ¬ c = 1 → ¬ (3 ≤ c ∧ c ≤ 6) → ¬ (D ≤ c ∧ c ≤ D + 5) → ¬ c = 325 → wd_tI ft I1 c j = I c j := fun c j a1 a2 a3 a4 => by
    rw [wd_tI_no (fun z => a1 z.1) (fun z => a4 z.1)]
    exact g3.1 c j (fun z => a1 z.1) a2 a3
  have hmt : wt_m (wd_tI ft I1) = wt_m I := by
    funext k
    unfold wt_m
    rw [fI 460 2 (by omega) (by omega) (by omega) (by omega), fI 461 k (by omega) (by omega) (by omega) (by omega)]
  have hY2 : wp_Y T (wd_tI ft I1) (wt_c I) n := by
    refine ⟨?_, by rw [hmt]; exact hY.2.1, hY.2.2⟩
    have := hY.1
    unfold wt_mok at this ⊢
    rw [fI 460 2 (by omega) (by omega) (by omega) (by omega)]
    exact this
  rw [hft] at hr ⊢
  refine s486 _ _ _ _ _ _ _ ⟨wt_c I, n, nmTs I n, rfl, hwT, hY2, rfl, fun I2 a1 a2 a3 a4 a5 => ?_⟩
  have hR2 := hr I2 g2 g3 ⟨a1, a2, a3, a4, a5⟩
  rw [hft]
  refine ⟨fun _ => ?_, fun z => (z rfl).elim⟩
  exact wL_fin hLg hi hm hx hT (fun j => by rw [a1 _ _ (by omega) (by omega) (by omega), fI _ _ (by omega) (by omega) (by omega) (by omega)]) hR2
