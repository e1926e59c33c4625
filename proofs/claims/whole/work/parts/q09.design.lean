/-! ===== numbers that were read make a design ===== -/
theorem nq_li {A B k : Nat} (h : A + B + k ≤ 200) : (nm_lg (Int32.ofNat A) (Int32.ofNat B) k).toInt = 2 * (1 + A + B + k) := by
  unfold nm_lg
  rw [wi_mul, wi_add, wi_add, wi_add, wi_on (n := A) (by omega), wi_on (n := B) (by omega), wi_on (n := k) (by omega), show (Int32.ofInt 2).toInt = 2 from rfl, show (Int32.ofInt 1).toInt = 1 from rfl, wr_id (x := 1 + (A : Int)) (by omega) (by omega), wr_id (x := 1 + (A : Int) + B) (by omega) (by omega), wr_id (x := 1 + (A : Int) + B + k) (by omega) (by omega), wr_id (by omega) (by omega)]
theorem nq_l1 {A B k : Nat} (h : A + B + k ≤ 200) : (nm_lg (Int32.ofNat A) (Int32.ofNat B) k - Int32.ofInt 1).toInt = 2 * (1 + A + B + k) - 1 := by
  rw [wi_sub, nq_li h, show (Int32.ofInt 1).toInt = 1 from rfl, wr_id (by omega) (by omega)]
theorem nq_gr {A B G : Nat} (h : A + B + G ≤ 200) : (nmGr A B G).toInt = 2 * (A + B + G) + 1 := by
  unfold nmGr
  rw [wi_add, wi_mul, wi_add, wi_add, wi_on (n := A) (by omega), wi_on (n := B) (by omega), wi_on (n := G) (by omega), show (Int32.ofInt 2).toInt = 2 from rfl, show (Int32.ofInt 1).toInt = 1 from rfl, wr_id (x := (A : Int) + B) (by omega) (by omega), wr_id (x := (A : Int) + B + G) (by omega) (by omega), wr_id (x := 2 * ((A : Int) + B + G)) (by omega) (by omega), wr_id (by omega) (by omega)]
theorem nq_all {ts : List wt_t} {n A B G : Nat} {s0 : wt_q} (hb : A + B + G ≤ 200) (h : (nmE ts n A B G s0).2 = none) : (∀ k, k < B → 0 ≤ (nm_nx ts n (Int32.ofNat A) (nmGr A B G) (nmA ts n A s0) k).toInt ∧ (nm_nx ts n (Int32.ofNat A) (nmGr A B G) (nmA ts n A s0) k).toInt < 2 * (1 + A + B + G)) ∧ (∀ k, k < 6 → 0 ≤ (nm_sg ts n (nmGr A B G) (nmBk ts n A B G s0 B) k).toInt ∧ (nm_sg ts n (nmGr A B G) (nmBk ts n A B G s0 B) k).toInt < 2 * (1 + A + B + G)) ∧ ∀ k, k < G → (0 ≤ (nm_on ts n (Int32.ofNat A) (Int32.ofNat B) (nmCk ts n A B G s0 6) k).toInt ∧ (nm_on ts n (Int32.ofNat A) (Int32.ofNat B) (nmCk ts n A B G s0 6) k).toInt < 2 * (1 + A + B + k)) ∧ (0 ≤ (nm_tw ts n (Int32.ofNat A) (Int32.ofNat B) (nmCk ts n A B G s0 6) k).toInt ∧ (nm_tw ts n (Int32.ofNat A) (Int32.ofNat B) (nmCk ts n A B G s0 6) k).toInt < 2 * (1 + A + B + k)) := by
  have z0 : (Int32.ofInt 0).toInt = 0 := rfl
  have hG := (tk_take_none h).1
  have dk : ∀ k, k ≤ G → (nm_sG ts n (Int32.ofNat A) (Int32.ofNat B) (nmCk ts n A B G s0 6) k).2 = none := fun k hk => by
    cases e : (nm_sG ts n (Int32.ofNat A) (Int32.ofNat B) (nmCk ts n A B G s0 6) k).2 with
    | none => rfl
    | some z =>
      have := nm_sG_f e (G - k)
      rw [show k + (G - k) = G by omega] at this
      exact absurd (this.symm.trans hG) (by simp)
  have hC : (nmCk ts n A B G s0 6).2 = none := dk 0 (by omega)
  have ck : ∀ k, k ≤ 6 → (nm_sS ts n (nmGr A B G) (nmBk ts n A B G s0 B) k).2 = none := fun k hk => by
    cases e : (nm_sS ts n (nmGr A B G) (nmBk ts n A B G s0 B) k).2 with
    | none => rfl
    | some z =>
      have := nm_sS_f e (6 - k)
      rw [show k + (6 - k) = 6 by omega] at this
      exact absurd (this.symm.trans hC) (by simp)
  have hB : (nmBk ts n A B G s0 B).2 = none := ck 0 (by omega)
  have bk : ∀ k, k ≤ B → (nm_sL ts n (Int32.ofNat A) (nmGr A B G) (nmA ts n A s0) k).2 = none := fun k hk => by
    cases e : (nm_sL ts n (Int32.ofNat A) (nmGr A B G) (nmA ts n A s0) k).2 with
    | none => rfl
    | some z =>
      have := nm_sL_f e (B - k)
      rw [show k + (B - k) = B by omega] at this
      exact absurd (this.symm.trans hB) (by simp)
  have eg := nq_gr hb
  refine ⟨fun k hk => ?_, fun k hk => ?_, fun k hk => ?_⟩
  · have h1 : (nm_l3 ts n (Int32.ofNat A) (nmGr A B G) k (nm_sL ts n (Int32.ofNat A) (nmGr A B G) (nmA ts n A s0) k)).2.2 = none := bk (k + 1) (by omega)
    have h2 := (nm_rd_none h1).1
    have h3 := nm_rd_in h2
    rw [eg, z0] at h3
    have h3 : 0 ≤ (nm_nx ts n (Int32.ofNat A) (nmGr A B G) (nmA ts n A s0) k).toInt ∧ (nm_nx ts n (Int32.ofNat A) (nmGr A B G) (nmA ts n A s0) k).toInt ≤ 2 * (A + B + G) + 1 := h3
    omega
  · have h1 : (nm_rd ts n (Int32.ofInt 0) (nmGr A B G) (nm_sS ts n (nmGr A B G) (nmBk ts n A B G s0 B) k)).2.2 = none := ck (k + 1) (by omega)
    have h3 := nm_rd_in h1
    rw [eg, z0] at h3
    have h3 : 0 ≤ (nm_sg ts n (nmGr A B G) (nmBk ts n A B G s0 B) k).toInt ∧ (nm_sg ts n (nmGr A B G) (nmBk ts n A B G s0 B) k).toInt ≤ 2 * (A + B + G) + 1 := h3
    omega
  · have h1 : (nm_g3 ts n (Int32.ofNat A) (Int32.ofNat B) k (nm_sG ts n (Int32.ofNat A) (Int32.ofNat B) (nmCk ts n A B G s0 6) k)).2.2 = none := dk (k + 1) (by omega)
    have el := nq_l1 (A := A) (B := B) (k := k) (by omega)
    have h2 := (nm_rd_none h1).1
    have h3 := nm_rd_in h2
    have h4 := nm_rd_in h1
    rw [el, z0] at h3 h4
    have h3 : 0 ≤ (nm_on ts n (Int32.ofNat A) (Int32.ofNat B) (nmCk ts n A B G s0 6) k).toInt ∧ (nm_on ts n (Int32.ofNat A) (Int32.ofNat B) (nmCk ts n A B G s0 6) k).toInt ≤ 2 * (1 + A + B + k) - 1 := h3
    have h4 : 0 ≤ (nm_tw ts n (Int32.ofNat A) (Int32.ofNat B) (nmCk ts n A B G s0 6) k).toInt ∧ (nm_tw ts n (Int32.ofNat A) (Int32.ofNat B) (nmCk ts n A B G s0 6) k).toInt ≤ 2 * (1 + A + B + k) - 1 := h4
    omega
