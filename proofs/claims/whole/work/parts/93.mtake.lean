/-! ===== the reference: a new design is taken ===== -/
/-- what taking a new design leaves alone -/
def wp_TF (I I1 : Nat → Nat → Int32) : Prop := ∀ c j, ¬ (c = 460 ∧ (j = 56 ∨ j = 57 ∨ j = 58 ∨ j = 66)) → ¬ (496 ≤ c ∧ c ≤ 500) → I1 c j = I c j
theorem wp_TF_tr {I J K : Nat → Nat → Int32} (h : wp_TF I J) (h2 : wp_TF J K) : wp_TF I K := fun c j a b => by rw [h2 c j a b, h c j a b]
theorem wp_TF_u {I : Nat → Nat → Int32} {c k : Nat} {x : Int32} (h : 496 ≤ c ∧ c ≤ 500) : wp_TF I (wv_u I c k x) := fun c2 j _ b => wv_u_no _ _ (fun z => b (by omega))
def wp_T1 (I I1 : Nat → Nat → Int32) (A B G kg kb ks : Nat) : Prop := wp_TF I I1 ∧ I1 460 56 = Int32.ofNat A ∧ I1 460 57 = Int32.ofNat B ∧ I1 460 58 = Int32.ofNat G ∧ (∀ j, j < kg → I1 496 j = I 530 j ∧ I1 497 j = I 531 j) ∧ (∀ j, j < kb → I1 498 j = I 532 j ∧ I1 499 j = I 533 j) ∧ ∀ j, j < ks → I1 500 j = I 534 j
def wp_h485 (A B G : Nat) (T : wv_T) (N : Nat) (I : Nat → Nat → Int32) (L : Nat → Nat → Int64) (R : Nat → Nat → Option Nat) : Nat → Option (Nat → wv_P) := fun pc =>
  if pc = 26 then some (fun m lv st T1 N1 I1 L1 R1 nc ns => ∃ k : Nat, lv = [some (.ref 460), some (.int (Int32.ofNat k)), none] ∧ st = [] ∧ T1 = T ∧ N1 = N ∧ L1 = L ∧ R1 = R ∧ nc = 0 ∧ ns = 0 ∧ k ≤ G ∧ m = 1000 - k ∧ wp_T1 I I1 A B G k 0 0)
  else if pc = 66 then some (fun m lv st T1 N1 I1 L1 R1 nc ns => ∃ k : Nat, lv = [some (.ref 460), some (.int (Int32.ofNat k)), none] ∧ st = [] ∧ T1 = T ∧ N1 = N ∧ L1 = L ∧ R1 = R ∧ nc = 0 ∧ ns = 0 ∧ k ≤ B ∧ m = 800 - k ∧ wp_T1 I I1 A B G G k 0)
  else if pc = 106 then some (fun m lv st T1 N1 I1 L1 R1 nc ns => ∃ k : Nat, lv = [some (.ref 460), some (.int (Int32.ofNat k)), none] ∧ st = [] ∧ T1 = T ∧ N1 = N ∧ L1 = L ∧ R1 = R ∧ nc = 0 ∧ ns = 0 ∧ k ≤ 6 ∧ m = 600 - k ∧ wp_T1 I I1 A B G G B k)
  else none
def wp_c485 : wv_c1 := fun as T N I L R q => ∃ (A B G : Nat), as = [.ref 460] ∧ wm_T T ∧ A ≤ 3 ∧ B ≤ 5 ∧ G ≤ 60 ∧ I 460 101 = Int32.ofNat A ∧ I 460 102 = Int32.ofNat B ∧ I 460 103 = Int32.ofNat G ∧ (∀ j, j < B → vp_nar .boolean (I 533 j) = I 533 j) ∧ ∀ I1, wp_T1 I I1 A B G G B 6 → I1 460 66 = Int32.ofInt 0 → q (.inl none) T N I1 L R 0 0
set_option maxRecDepth 100000 in
theorem wM_485 : ∃ cb ci np, pt_mt 485 = some (32, cb, 2, false, none, ci, np) := ⟨_, _, _, rfl⟩
set_option maxRecDepth 100000 in
set_option maxHeartbeats 4000000 in
theorem wp_takeDesign {sc : pt_Sc} {d : Nat} : wv_C wm_fx sc (d + 1) 485 wp_c485 := by
  rintro as T N I L R q ⟨A, B, G, rfl, hT, hA, hB, hG, i101, i102, i103, hbo, hq⟩ w0 HR
  obtain ⟨cb, ci, np, hm⟩ := wM_485
  refine wv_meth (hh := none) rfl (sp := fun _ _ _ _ _ _ _ _ => False) (hd := wp_h485 A B G T N I L R) (n := 300) (n1 := 300) hm zc_485 rfl (fun k as T N I L R q h => by cases h) ?_ ?_ HR
  · refine ⟨1000, 0, rfl, rfl, rfl, rfl, rfl, rfl, rfl, rfl, Nat.zero_le _, rfl, ?_, ?_, ?_, ?_, fun j hj => by omega, fun j hj => by omega, fun j hj => by omega⟩
    · intro c j a b
      rw [wv_u_no _ _ (by omega), wv_u_no _ _ (by omega), wv_u_no _ _ (by omega)]
    · rw [wv_u_no _ _ (by omega), wv_u_no _ _ (by omega), wv_u_at]; exact i101
    · rw [wv_u_no _ _ (by omega), wv_u_at, wv_u_no _ _ (by omega)]; exact i102
    · rw [wv_u_at, wv_u_no _ _ (by omega), wv_u_no _ _ (by omega)]; exact i103
  · intro pc P hP m lv st T1 N1 I1 L1 R1 nc ns hh
    have eA := wi_on (n := A) (by omega)
    have eB := wi_on (n := B) (by omega)
    have eG := wi_on (n := G) (by omega)
    unfold wp_h485 at hP
    split at hP
    · cases hP
      rename_i hpc
      subst hpc
      obtain ⟨k, rfl, rfl, rfl, rfl, rfl, rfl, rfl, rfl, hk, hm, hF, j56, j57, j58, v1, v2, v3⟩ := hh
      have ek := wi_on (n := k) (by omega)
      have en := wi_onn (n := k) (by omega)
      refine ⟨fun h1 => ?_, fun h1 => ?_⟩
      · have e : k = G := by rw [j58, wi_le, ek, eG] at h1; omega
        subst e
        exact ⟨800, by omega, 0, rfl, rfl, rfl, rfl, rfl, rfl, rfl, rfl, Nat.zero_le _, rfl, hF, j56, j57, j58, v1, v2, v3⟩
      have hlt : k < G := by rw [j58, wi_le, ek, eG] at h1; omega
      have bk : 0 ≤ Int32.ofNat k ∧ (Int32.ofNat k).toInt < (60 : Nat) := ⟨by rw [wi_le, ek, wi_0]; omega, by rw [ek]; omega⟩
      refine ⟨_, wm_t hT rfl, bk, _, wm_t hT rfl, bk, by decide, _, wm_t hT rfl, bk, _, wm_t hT rfl, bk, by decide, ?_⟩
      rw [en]
      refine ⟨1000 - (k + 1), by omega, k + 1, by rw [← wq_4s]; rfl, rfl, rfl, rfl, rfl, rfl, rfl, rfl, by omega, rfl, ?_, ?_, ?_, ?_, ?_, fun j hj => by omega, fun j hj => by omega⟩
      · exact wp_TF_tr (wp_TF_tr hF (wp_TF_u (by omega))) (wp_TF_u (by omega))
      · rw [wv_u_no _ _ (by omega), wv_u_no _ _ (by omega)]; exact j56
      · rw [wv_u_no _ _ (by omega), wv_u_no _ _ (by omega)]; exact j57
      · rw [wv_u_no _ _ (by omega), wv_u_no _ _ (by omega)]; exact j58
      · intro j hj
        by_cases hjk : j = k
        · subst hjk
          constructor
          · rw [wv_u_no _ _ (by omega), wv_u_at]; exact hF _ _ (by omega) (by omega)
          · rw [wv_u_at, wv_u_no _ _ (by omega)]; exact hF _ _ (by omega) (by omega)
        · constructor
          · rw [wv_u_no _ _ (by omega), wv_u_no _ _ (by omega)]; exact (v1 j (by omega)).1
          · rw [wv_u_no _ _ (by omega), wv_u_no _ _ (by omega)]; exact (v1 j (by omega)).2
    · split at hP
      · cases hP
        rename_i h0 hpc
        subst hpc
        obtain ⟨k, rfl, rfl, rfl, rfl, rfl, rfl, rfl, rfl, hk, hm, hF, j56, j57, j58, v1, v2, v3⟩ := hh
        have ek := wi_on (n := k) (by omega)
        have en := wi_onn (n := k) (by omega)
        refine ⟨fun h1 => ?_, fun h1 => ?_⟩
        · have e : k = B := by rw [j57, wi_le, ek, eB] at h1; omega
          subst e
          exact ⟨600, by omega, 0, rfl, rfl, rfl, rfl, rfl, rfl, rfl, rfl, Nat.zero_le _, rfl, hF, j56, j57, j58, v1, v2, v3⟩
        have hlt : k < B := by rw [j57, wi_le, ek, eB] at h1; omega
        have bk : 0 ≤ Int32.ofNat k ∧ (Int32.ofNat k).toInt < (5 : Nat) := ⟨by rw [wi_le, ek, wi_0]; omega, by rw [ek]; omega⟩
        refine ⟨_, wm_t hT rfl, bk, _, wm_t hT rfl, bk, by decide, _, _, Or.inl rfl, wm_t hT rfl, bk, _, wm_t hT rfl, bk, by decide, ?_⟩
        rw [en]
        refine ⟨800 - (k + 1), by omega, k + 1, by rw [← wq_4s]; rfl, rfl, rfl, rfl, rfl, rfl, rfl, rfl, by omega, rfl, ?_, ?_, ?_, ?_, ?_, ?_, fun j hj => by omega⟩
        · exact wp_TF_tr (wp_TF_tr hF (wp_TF_u (by omega))) (wp_TF_u (by omega))
        · rw [wv_u_no _ _ (by omega), wv_u_no _ _ (by omega)]; exact j56
        · rw [wv_u_no _ _ (by omega), wv_u_no _ _ (by omega)]; exact j57
        · rw [wv_u_no _ _ (by omega), wv_u_no _ _ (by omega)]; exact j58
        · intro j hj
          rw [wv_u_no _ _ (by omega), wv_u_no _ _ (by omega), wv_u_no _ _ (by omega), wv_u_no _ _ (by omega)]; exact v1 j hj
        · intro j hj
          by_cases hjk : j = k
          · subst hjk
            constructor
            · rw [wv_u_no _ _ (by omega), wv_u_at]; exact hF _ _ (by omega) (by omega)
            · rw [wv_u_at, wv_u_no _ _ (by omega), hF 533 _ (by omega) (by omega)]; exact hbo j hlt
          · constructor
            · rw [wv_u_no _ _ (by omega), wv_u_no _ _ (by omega)]; exact (v2 j (by omega)).1
            · rw [wv_u_no _ _ (by omega), wv_u_no _ _ (by omega)]; exact (v2 j (by omega)).2
      · split at hP
        · cases hP
          rename_i h0 h1 hpc
          subst hpc
          obtain ⟨k, rfl, rfl, rfl, rfl, rfl, rfl, rfl, rfl, hk, hm, hF, j56, j57, j58, v1, v2, v3⟩ := hh
          have ek := wi_on (n := k) (by omega)
          have en := wi_onn (n := k) (by omega)
          have e6 : ((Int8.ofInt 6).toInt32).toInt = 6 := rfl
          refine ⟨fun h1 => ?_, fun h1 => ?_⟩
          · have e : k = 6 := by rw [wi_le, ek, e6] at h1; omega
            subst e
            have hX : ∀ J, J = wv_u I1 460 66 (Int32.ofInt 0) → wp_T1 I J A B G G B 6 ∧ J 460 66 = Int32.ofInt 0 := by
              rintro J rfl
              refine ⟨⟨fun c j a b => ?_, ?_, ?_, ?_, fun j hj => ?_, fun j hj => ?_, fun j hj => ?_⟩, wv_u_at _ _ _ _⟩
              · rw [wv_u_no _ _ (by omega)]; exact hF c j a b
              · rw [wv_u_no _ _ (by omega)]; exact j56
              · rw [wv_u_no _ _ (by omega)]; exact j57
              · rw [wv_u_no _ _ (by omega)]; exact j58
              · rw [wv_u_no _ _ (by omega), wv_u_no _ _ (by omega)]; exact v1 j hj
              · rw [wv_u_no _ _ (by omega), wv_u_no _ _ (by omega)]; exact v2 j hj
              · rw [wv_u_no _ _ (by omega)]; exact v3 j hj
            obtain ⟨y1, y2⟩ := hX _ rfl
            exact hq _ y1 y2
          have hlt : k < 6 := by rw [wi_le, ek, e6] at h1; omega
          have bk : 0 ≤ Int32.ofNat k ∧ (Int32.ofNat k).toInt < (6 : Nat) := ⟨by rw [wi_le, ek, wi_0]; omega, by rw [ek]; omega⟩
          refine ⟨_, wm_t hT rfl, bk, _, wm_t hT rfl, bk, by decide, ?_⟩
          rw [en]
          refine ⟨600 - (k + 1), by omega, k + 1, by rw [← wq_4s]; rfl, rfl, rfl, rfl, rfl, rfl, rfl, rfl, by omega, rfl, ?_, ?_, ?_, ?_, ?_, ?_, ?_⟩
          · exact wp_TF_tr hF (wp_TF_u (by omega))
          · rw [wv_u_no _ _ (by omega)]; exact j56
          · rw [wv_u_no _ _ (by omega)]; exact j57
          · rw [wv_u_no _ _ (by omega)]; exact j58
          · intro j hj
            rw [wv_u_no _ _ (by omega), wv_u_no _ _ (by omega)]; exact v1 j hj
          · intro j hj
            rw [wv_u_no _ _ (by omega), wv_u_no _ _ (by omega)]; exact v2 j hj
          · intro j hj
            by_cases hjk : j = k
            · subst hjk
              rw [wv_u_at]; exact hF _ _ (by omega) (by omega)
            · rw [wv_u_no _ _ (by omega)]; exact v3 j (by omega)
        · cases hP
