/-! ===== the law: readDesign ===== -/
/-- what the reference leaves of a design text -/
def wL_14m (ts : List wt_t) (n : Nat) (I I1 : Nat → Nat → Int32) : Prop := dl_FF I I1 ∧ I1 460 0 = 0 ∧ I1 460 2 = 0 ∧ ((dsZ ts n).1.1.2 = none → dl_D ts n I1) ∧ (¬ (dsZ ts n).1.1.2 = none → ∀ c j, (c = 460 ∧ ((56 ≤ j ∧ j ≤ 58) ∨ j = 66)) ∨ (496 ≤ c ∧ c ≤ 500) → I1 c j = I c j)
theorem dp_all2 {I : Nat → Nat → Int32} {n : Nat} (ht : wt_tx (wt_c I) n) (hn : n ≤ 400) : ∀ z, (dsZ (dsTs I n) n).1.1.2 = some z → z ≤ 400 := by
  unfold dsTs
  exact fun z e => Nat.le_trans (dp_all ht z e) hn
def wL_14 (Rel : wv_T → Nat → (Nat → Nat → Int32) → (Nat → Nat → Int64) → (Nat → Nat → Option Nat) → Nat → Nat → Nat → Prop) : Prop := ∀ T N I L R nc ns i, i ≤ 2044 → Rel T N I L R nc ns i → ∃ n C D, wL_X T I R n C D ∧ 30 < D ∧ ∀ I1 L1 I2, dsOut T R (dsTs I n) n D I1 L1 → ds_OF D I L I1 L1 → wL_14m (dsTs I n) n (wd_tI (dsZ (dsTs I n) n).1.1.2 I1) I2 → Rel T N I2 L1 (wd_tR (dsZ (dsTs I n) n).1.1.2 C D R) nc ns (i + 4)
set_option maxRecDepth 100000 in
set_option maxHeartbeats 4000000 in
theorem wL_case14 {Rel : wv_T → Nat → (Nat → Nat → Int32) → (Nat → Nat → Int64) → (Nat → Nat → Option Nat) → Nat → Nat → Nat → Prop} {xs : Nat → Int32} {Lg : Nat} {fv : Value} {q : wv_Q} {sp : wv_K} (hLg : Lg ≤ 2048) (H : wL_14 Rel)
    (s20 : ∀ as T N I L R q, wq_c20 as T N I L R q → sp 20 as T N I L R q) (s465 : ∀ as T N I L R q, dl_c465 as T N I L R q → sp 465 as T N I L R q) :
    ∀ m lv st T N I L R nc ns, wL_P Rel xs Lg (some 14) m lv st T N I L R nc ns → wv_S wm_fx fv none sp 0 7 false (some .boolean) zt_0 q (wv wm_fx fv none sp 0 7 false (some .boolean) zt_0 (wv_h2 (wL_hd Rel xs Lg) m) q 100) (zk_at zt_0 1016) lv st T N I L R nc ns := by
  rintro m lv st T N I L R nc ns ⟨i, x5, x6, rfl, rfl, hT, hx, hR, hi, hm, hop⟩
  obtain ⟨n, C, D, ⟨hwT, hS, hC, hD0, hD, hD7, hDB, hDr, h325, h6, hn, hY⟩, hD30, r1⟩ := H T N I L R nc ns i (by omega) hR
  have hz : ∀ z, (dsZ (dsTs I n) n).1.1.2 = some z → z ≤ 400 := dp_all2 hY.2.2.2 hn
  refine s20 _ _ _ _ _ _ _ ⟨n, C, D, rfl, hwT, hS, hC, hD0, hD, hD30, by omega, h325, h6, hn, hz, fun I1 L1 g2 g3 => ?_⟩
  have hr := r1 I1 L1
  obtain ⟨ft, hft⟩ : ∃ f, (dsZ (dsTs I n) n).1.1.2 = f := ⟨_, rfl⟩
  have fI : ∀ c j, ¬ c = 1 → ¬ (3 ≤ c ∧ c ≤ 6) → ¬ (D ≤ c ∧ c ≤ D + 5) → ¬ c = 325 → ¬ (22 ≤ c ∧ c ≤ 25) → wd_tI ft I1 c j = I c j := fun c j a1 a2 a3 a4 a5 => by
    rw [wd_tI_no (fun z => a1 z.1) (fun z => a4 z.1)]
    exact g3.1 c j (fun z => a1 z.1) a2 (by omega) (by omega) a3
  have hmt : wt_m (wd_tI ft I1) = wt_m I := by
    funext k
    unfold wt_m
    rw [fI 460 2 (by omega) (by omega) (by omega) (by omega) (by omega), fI 461 k (by omega) (by omega) (by omega) (by omega) (by omega)]
  have hY2 : wp_Y T (wd_tI ft I1) (wt_c I) n := by
    refine ⟨?_, by rw [hmt]; exact hY.2.1, hY.2.2⟩
    have := hY.1
    unfold wt_mok at this ⊢
    rw [fI 460 2 (by omega) (by omega) (by omega) (by omega) (by omega)]
    exact this
  rw [hft] at hr ⊢
  refine s465 _ _ _ _ _ _ _ ⟨wt_c I, n, dsTs I n, rfl, hwT, hY2, rfl, fun I2 a1 a2 a3 a4 a5 => ?_⟩
  have hR2 := hr I2 g2 g3 ⟨a1, a2, a3, a4, a5⟩
  rw [hft]
  refine ⟨fun _ => ?_, fun z => (z rfl).elim⟩
  exact wL_fin hLg hi hm hx hT (fun j => by rw [a1 _ _ (by omega) (by omega) (by omega), fI _ _ (by omega) (by omega) (by omega) (by omega) (by omega)]) hR2
