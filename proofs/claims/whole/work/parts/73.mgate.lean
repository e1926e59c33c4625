/-! ===== the reference: gate itself ===== -/
/-- one gate more: J is the state with nothing thrown -/
def wn_add (a b : Int32) (J : Nat → Nat → Int32) : Nat → Nat → Int32 := wv_u (wv_u (wv_u (wv_u J 496 (J 460 58).toNatClampNeg a) 497 (J 460 58).toNatClampNeg b) 460 58 (J 460 58 + Int32.ofInt 1)) 460 66 (Int32.ofInt 0)
def wp_c452 : wv_c1 := fun as T N I L R q => ∃ a b : Int32, as = [.ref 460, .int a, .int b] ∧ wm_T T ∧ 0 ≤ (I 460 58).toInt ∧ (I 460 58).toInt ≤ 60 ∧
  (if (wn_no I a || wn_no I b) = true then q (.inl (some (.int 0))) T N (wv_u I 460 0 1) L R 0 0 else if (I 460 58).toInt = 60 then q (.inl (some (.int 0))) T N (wv_u I 460 0 2) L R 0 0 else q (.inl (some (.int (I 460 56 + I 460 57 + (I 460 58 + Int32.ofInt 1))))) T N (wn_add a b (wv_u I 460 0 0)) L R 0 0)
set_option maxRecDepth 100000 in
theorem wp_m452 : ∃ cb ci np, pt_mt 452 = some (32, cb, 3, false, some .int, ci, np) := ⟨_, _, _, rfl⟩
set_option maxRecDepth 100000 in
set_option maxHeartbeats 4000000 in
theorem wp_gate {sc : pt_Sc} {d : Nat} : wv_C wm_fx sc (d + 1 + 1) 452 wp_c452 := by
  rintro as T N I L R q ⟨a, b, rfl, hT, g0, g1, h⟩ w HR
  obtain ⟨cb, ci, np, hm⟩ := wp_m452
  have n10 : ¬ (1 : Int32) = 0 := by decide
  have e60 : ((Int8.ofInt 60).toInt32).toInt = 60 := rfl
  refine wv_meth (hh := none) rfl (sp := wv_sp [(345, wp_c345), (453, wp_c453)]) (hd := fun _ => none) (n := 0) (n1 := 100) hm zc_452 rfl (wv_sp_ok (fun q hq => by rcases List.mem_cons.mp hq with h | h; rw [h]; exact wp_refuse; rw [List.mem_singleton.mp h]; exact wp_noLiteral)) ?_ (fun pc P h => by cases h) HR
  have wb1 : ∀ x : Bool, ¬ wp_b x = 0 → x = true := by decide
  have wb0 : ∀ x : Bool, ¬ ¬ wp_b x = 0 → x = false := by decide
  have wb2 : ∀ x : Bool, wp_b x = 0 → x = false := by decide
  refine ⟨_, rfl, ?_⟩
  refine ⟨fun h1 => ?_, fun h1 => ?_⟩
  · rw [if_pos (by rw [wb1 _ h1]; rfl)] at h
    refine ⟨fun h2 => ?_, fun h2 => ?_⟩
    · refine ⟨_, _, rfl, ?_⟩
      rw [if_neg (by decide)]
      exact ⟨fun z => (n10 z).elim, fun _ => h⟩
    · refine ⟨_, _, rfl, ?_⟩
      rw [if_neg (by decide)]
      exact ⟨fun z => (n10 z).elim, fun _ => h⟩
  · refine ⟨_, rfl, ?_⟩
    refine ⟨fun h3 => ?_, fun h3 => ?_⟩
    · rw [if_neg (by rw [wb0 _ h1, wb2 _ h3]; decide)] at h
      refine ⟨fun h2 => ?_, fun h2 => ?_⟩
      · have h5 : ¬ (I 460 58).toInt = 60 := fun z => h2 (wi_eq.mpr (by rw [e60]; exact z))
        rw [if_neg h5] at h
        refine ⟨_, _, rfl, ?_⟩
        rw [if_pos (by decide), if_pos (by decide)]
        refine ⟨fun _ => ?_, fun z => (z rfl).elim⟩
        have u : wv_u I 460 0 0 460 58 = I 460 58 := wv_u_no _ _ (by omega)
        have bd : 0 ≤ wv_u I 460 0 0 460 58 ∧ (wv_u I 460 0 0 460 58).toInt < (60 : Nat) := by
          rw [u]
          exact ⟨by rw [wi_le, wi_0]; exact g0, by omega⟩
        refine ⟨_, wm_t hT rfl, bd, by decide, ?_⟩
        have u2 : ∀ x y, wv_u (wv_u I 460 0 0) 496 x y 460 58 = wv_u I 460 0 0 460 58 := fun x y => wv_u_no _ _ (by omega)
        refine ⟨_, wm_t hT rfl, by rw [u2]; exact bd, by decide, ?_⟩
        have v56 : ∀ k, ¬ k = 0 → ¬ k = 58 → ¬ k = 66 → wn_add a b (wv_u I 460 0 0) 460 k = I 460 k := by
          intro k k0 k1 k2
          unfold wn_add
          rw [wv_u_no _ _ (fun z => k2 z.2), wv_u_no _ _ (fun z => k1 z.2), wv_u_no _ _ (by omega), wv_u_no _ _ (by omega), wv_u_no _ _ (fun z => k0 z.2)]
        have v58 : wn_add a b (wv_u I 460 0 0) 460 58 = I 460 58 + Int32.ofInt 1 := by
          unfold wn_add
          rw [wv_u_no _ _ (by omega), wv_u_at, u]
        have hX : ∀ X, X = wn_add a b (wv_u I 460 0 0) → q (.inl (some (.int (X 460 56 + X 460 57 + X 460 58)))) T N X L R 0 0 := by
          rintro X rfl
          rw [v56 56 (by decide) (by decide) (by decide), v56 57 (by decide) (by decide) (by decide), v58]
          exact h
        have u3 : ∀ x y x2 y2, wv_u (wv_u (wv_u I 460 0 0) 496 x y) 497 x2 y2 460 58 = wv_u I 460 0 0 460 58 := fun x y x2 y2 => by rw [wv_u_no _ _ (by omega), u2]
        exact hX (wv_u (wv_u (wv_u (wv_u (wv_u I 460 0 0) 496 (wv_u I 460 0 0 460 58).toNatClampNeg a) 497 (wv_u (wv_u I 460 0 0) 496 (wv_u I 460 0 0 460 58).toNatClampNeg a 460 58).toNatClampNeg b) 460 58 (wv_u (wv_u (wv_u I 460 0 0) 496 (wv_u I 460 0 0 460 58).toNatClampNeg a) 497 (wv_u (wv_u I 460 0 0) 496 (wv_u I 460 0 0 460 58).toNatClampNeg a 460 58).toNatClampNeg b 460 58 + Int32.ofInt 1)) 460 66 (Int32.ofInt 0)) (by rw [u3, u2]; rfl)
      · have h5 : (I 460 58).toInt = 60 := by
          have := wi_eq.mp (Decidable.not_not.mp h2)
          rw [e60] at this
          exact this
        rw [if_pos h5] at h
        refine ⟨_, _, rfl, ?_⟩
        rw [if_pos (by decide), if_neg (by decide)]
        exact ⟨fun z => (n10 z).elim, fun _ => h⟩
    · rw [if_pos (by
        have : wn_no I b = true := by
          cases hx : wn_no I b with
          | true => rfl
          | false => rw [hx] at h3; exact (h3 rfl).elim
        rw [this, Bool.or_true])] at h
      refine ⟨fun h2 => ?_, fun h2 => ?_⟩
      · refine ⟨_, _, rfl, ?_⟩
        rw [if_neg (by decide)]
        exact ⟨fun z => (n10 z).elim, fun _ => h⟩
      · refine ⟨_, _, rfl, ?_⟩
        rw [if_neg (by decide)]
        exact ⟨fun z => (n10 z).elim, fun _ => h⟩
