/-! ===== parts and nodes, counted ===== -/
/-- every part is a node's first -/
theorem tq_sur {P : pd_P} {nd : Nat → nq_N} {hc : Nat → Nat → Bool} {T : Nat → nt_A} {Q : Nat → Prop} {pa pb : Nat → Nat} (h : tr_ok P nd hc T Q pa pb) : ∀ n, Q n → ∀ i, pa n ≤ i → i < pb n → ∃ y, tq_Q nd n y ∧ pa y = i := by
  have up : ∀ {n c y}, tq_Q nd n c → tq_Q nd c y → tq_Q nd n y := by
    intro n c y hn ⟨d, hd⟩
    induction d generalizing y with
    | zero =>
      have e : y = c := hd
      rw [e]
      exact hn
    | succ d ih =>
      rcases hd with hd | ⟨z, hz, ⟨k, rfl⟩ | ⟨k, rfl⟩⟩
      · exact ih hd
      · exact tq_l (ih hz) k
      · exact tq_r (ih hz) k
  intro n
  induction n using Nat.strongRecOn with
  | _ n ih =>
    intro hn i h1 h2
    by_cases e : i = pa n
    · exact ⟨n, tq_0, e.symm⟩
    obtain ⟨tq, hl, hr, hab, _⟩ := h n hn
    obtain ⟨Z, hZ⟩ : ∃ Z : Prop, Z = (∃ y, tq_Q nd n y ∧ pa y = i) := ⟨_, rfl⟩
    rw [← hZ]
    have goL : tr_L (nq_k (nd n)) → pa (nq_l (nd n)) ≤ i → i < pb (nq_l (nd n)) → Z := fun k a b => by
      rw [hZ]
      obtain ⟨y, y1, y2⟩ := ih _ (hl k).1 (hl k).2 i a b
      exact ⟨y, up (tq_l tq_0 k) y1, y2⟩
    have goR : tr_R (nq_k (nd n)) → pa (nq_r (nd n)) ≤ i → i < pb (nq_r (nd n)) → Z := fun k a b => by
      rw [hZ]
      obtain ⟨y, y1, y2⟩ := ih _ (hr k).1 (hr k).2 i a b
      exact ⟨y, up (tq_r tq_0 k) y1, y2⟩
    clear ih hl hr up
    clear hZ
    unfold tr_eq at tq
    unfold tr_L at goL
    unfold tr_R at goR
    rcases tq with ⟨k1, k2, k3, k4⟩ | ⟨k1, k2, k3, k4⟩ | ⟨k1, k2, k3, k4, k5⟩ | ⟨k1, k2, k3, k4, k5⟩ | ⟨k1, k2, k3, k4, k5⟩ | ⟨k1, k2, k4, k5⟩ | ⟨k1, k2, k3, k4⟩ | ⟨k1, k2, k3, k4, k5⟩ | ⟨k1, k2, k3, k4, k5⟩ | ⟨k1, k2, k3, k4, k5⟩ | ⟨k1, k2, k3, k4, k5, k6⟩
    · exfalso; omega
    · exfalso; omega
    · exact goR (by omega) (by omega) (by omega)
    · exact goR (by omega) (by omega) (by omega)
    · exact goR (by omega) (by omega) (by omega)
    · exact goL (by omega) (by omega) (by omega)
    · exfalso; omega
    · exact goL (by omega) (by omega) (by omega)
    · exact goL (by omega) (by omega) (by omega)
    · exfalso; omega
    · by_cases e2 : i < pb (nq_l (nd n))
      · exact goL (by omega) (by omega) e2
      · exact goR (by omega) (by omega) (by omega)
/-- how many below n -/
def cz_c (A : Nat → Bool) : Nat → Nat
  | 0 => 0
  | n + 1 => cz_c A n + (if A n = true then 1 else 0)
theorem cz_rm {B : Nat → Bool} {y : Nat} (hb : B y = true) : ∀ n, y < n → cz_c (fun z => B z && decide (¬ z = y)) n + 1 = cz_c B n
  | 0, h => by omega
  | n + 1, h => by
    show cz_c (fun z => B z && decide (¬ z = y)) n + (if (B n && decide (¬ n = y)) = true then 1 else 0) + 1 = cz_c B n + (if B n = true then 1 else 0)
    by_cases e : n = y
    · subst e
      have same : ∀ k, k ≤ n → cz_c (fun z => B z && decide (¬ z = n)) k = cz_c B k := by
        intro k
        induction k with
        | zero => exact fun _ => rfl
        | succ k ih =>
          intro hk
          show cz_c (fun z => B z && decide (¬ z = n)) k + (if (B k && decide (¬ k = n)) = true then 1 else 0) = cz_c B k + (if B k = true then 1 else 0)
          rw [ih (by omega), decide_eq_true (show ¬ k = n by omega), Bool.and_true]
      rw [same n (Nat.le_refl _), decide_eq_false (fun z => z rfl), Bool.and_false, if_neg (by decide), hb, if_pos rfl]
    · rw [decide_eq_true e, Bool.and_true]
      have := cz_rm hb n (by omega)
      omega
theorem cz_inj {N : Nat} {f : Nat → Nat} {A : Nat → Bool} : ∀ m (B : Nat → Bool), (∀ i, i < m → A i = true → f i < N ∧ B (f i) = true) → (∀ i j, i < m → j < m → A i = true → A j = true → f i = f j → i = j) → cz_c A m ≤ cz_c B N
  | 0, B, _, _ => Nat.zero_le _
  | m + 1, B, h1, h2 => by
    show cz_c A m + (if A m = true then 1 else 0) ≤ cz_c B N
    split
    · rename_i hA
      obtain ⟨a1, a2⟩ := h1 m (by omega) hA
      have ih := cz_inj m (fun z => B z && decide (¬ z = f m)) (fun i hi hi2 => ⟨(h1 i (by omega) hi2).1, by
        have ne : ¬ f i = f m := fun z => by
          have := h2 i m (by omega) (by omega) hi2 hA z
          omega
        show (B (f i) && decide (¬ f i = f m)) = true
        rw [(h1 i (by omega) hi2).2, decide_eq_true ne]
        rfl⟩) (fun i j hi hj => h2 i j (by omega) (by omega))
      have := cz_rm a2 N a1
      omega
    · exact cz_inj m B (fun i hi => h1 i (by omega)) (fun i j hi hj => h2 i j (by omega) (by omega))
theorem tq_fc {P : pd_P} : ∀ m, fs P m = cz_c (fun i => decide (pd_k P i = 1 ∨ pd_k P i = 2 ∨ pd_k P i = 3 ∨ pd_k P i = 6)) m
  | 0 => rfl
  | m + 1 => by
    show fs P m + (if pd_k P m = 1 ∨ pd_k P m = 2 ∨ pd_k P m = 3 ∨ pd_k P m = 6 then 1 else 0) = cz_c _ m + (if decide (pd_k P m = 1 ∨ pd_k P m = 2 ∨ pd_k P m = 3 ∨ pd_k P m = 6) = true then 1 else 0)
    rw [tq_fc m]
    simp only [decide_eq_true_eq]
theorem tq_wc {S : rn_N} : ∀ n, fw_n S n = cz_c (fw_s S) n
  | 0 => rfl
  | n + 1 => by
    show fw_n S n + _ = cz_c (fw_s S) n + _
    rw [tq_wc n]
/-- parts with sequences are no more than nodes with sequences -/
theorem tq_fs {P : pd_P} {S : rn_N} {Q : Nat → Prop} {pa pb : Nat → Nat} {x : Nat} (h : tr_ok P (rn_d S) (rn_h S) (rn_t S) Q pa pb) (hx : Q x) (h0 : pa x = 0) (hm : pb x = pd_m P) (hn : ∀ y, Q y → y < rn_n S) : fs P (pd_m P) ≤ fw_n S (rn_n S) := by
  have ex : ∀ i, ∃ y, i < pd_m P → tq_Q (rn_d S) x y ∧ pa y = i := fun i => by
    by_cases e : i < pd_m P
    · obtain ⟨y, hy⟩ := tq_sur h x hx i (by omega) (by omega)
      exact ⟨y, fun _ => hy⟩
    · exact ⟨0, fun z => (e z).elim⟩
  obtain ⟨f, hf⟩ := Classical.axiomOfChoice ex
  rw [tq_fc, tq_wc]
  refine cz_inj (f := f) _ _ (fun i hi hA => ?_) (fun i j hi hj _ _ e => ?_)
  · obtain ⟨a1, a2⟩ := hf i hi
    have hQ := (tq_ok h hx).2 _ a1
    refine ⟨hn _ hQ, ?_⟩
    have g := (fs_tr (h _ hQ).1).1
    rw [a2] at g
    have hA2 : pd_k P i = 1 ∨ pd_k P i = 2 ∨ pd_k P i = 3 ∨ pd_k P i = 6 := of_decide_eq_true hA
    have g2 : tr_S (rn_k S (f i)) := g.mp hA2
    exact decide_eq_true g2
  · have a1 := (hf i hi).2
    have a2 := (hf j hj).2
    have a3 : pa (f i) = pa (f j) := congrArg pa e
    omega
/-- a row's length -/
theorem tq_sl {P : pd_P} {k : Nat → Int32} {m : Nat} (hk : ∀ i, i < m → k i = Int32.ofNat (pd_k P i) ∧ pd_k P i ≤ 10) : ∀ i, i ≤ m → pp_sl k m i ≤ 2 * m + 24 * fs P i
  | 0, _ => Nat.le_refl _
  | i + 1, hi => by
    have ih := tq_sl hk i (by omega)
    show pp_sl k m i + (if k i = Int32.ofInt 1 then 24 else 0) ≤ 2 * m + 24 * (fs P i + (if pd_k P i = 1 ∨ pd_k P i = 2 ∨ pd_k P i = 3 ∨ pd_k P i = 6 then 1 else 0))
    by_cases e : k i = Int32.ofInt 1
    · have e2 : pd_k P i = 1 := by
        have h := (hk i (by omega)).1.symm.trans e
        exact fd_on (b := 1) (by have := (hk i (by omega)).2; omega) (by omega) h
      rw [if_pos e, if_pos (Or.inl e2)]
      omega
    · rw [if_neg e]
      split <;> omega
