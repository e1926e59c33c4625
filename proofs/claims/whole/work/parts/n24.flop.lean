/-! ===== a flip-flop by its number: both sides the same ===== -/
theorem fd_en {S : rn_N} {lk wd : Nat} {v : Nat → Nat} {L : Nat → Nat → Int64} (hS : ns_sol (rn_d S) (rn_h S) (pd_wn v lk) (lk + wd) (rn_n S) (mr_S L (lk + wd))) (hi : rn_i S) (hq : rn_q S) {y : Nat} (h1 : y < rn_n S) (h2 : fl_prop (rn_k S y)) (h3 : tr_S (rn_k S y)) {i j : Nat} (hij : i ≤ j) (hj : j ≤ lk) : fb_e L (nq_l (rn_d S y)) i j = true ↔ nt_a (rn_t S (nq_l (rn_d S y))) (pd_w v) i j := by
  obtain ⟨l1, l2, l3⟩ := ((hq y h1).2 h2).2.2.1 h3
  have main := ns_main hS hi.1 hi.2.1 _ (show nq_l (rn_d S y) < rn_n S by omega) l2 i (by omega) j
  have e : nt_a (rn_t S (nq_l (rn_d S y))) (pd_wn v lk) i j ↔ nt_a (rn_t S (nq_l (rn_d S y))) (pd_w v) i j := nt_a_w (fun k k1 k2 => by
    show (if k < lk then some (v k) else none) = some (v k)
    rw [if_pos (by omega)])
  rw [← e]
  constructor
  · intro z
    exact (main.mp ⟨by omega, z⟩).2
  · intro z
    exact (main.mpr ⟨by omega, z⟩).2
theorem fd_ff {P : pd_P} {ka : Nat → Nat × (Nat → Nat)} : ∀ d k, ff_n P ka k ≤ ff_n P ka (k + d)
  | 0, _ => Nat.le_refl _
  | d + 1, k => Nat.le_trans (fd_ff d k) (Nat.le_add_right _ _)
theorem fd_in {P : pd_P} {ka : Nat → Nat × (Nat → Nat)} {k k2 x x2 : Nat} (h : x < ff_1 P ka k) (h2 : x2 < ff_1 P ka k2) (e : x + ff_n P ka k = x2 + ff_n P ka k2) : k = k2 ∧ x = x2 := by
  have s1 : ff_n P ka (k + 1) = ff_n P ka k + ff_1 P ka k := rfl
  have s2 : ff_n P ka (k2 + 1) = ff_n P ka k2 + ff_1 P ka k2 := rfl
  rcases Nat.lt_trichotomy k k2 with z | z | z
  · have m1 := fd_ff (P := P) (ka := ka) (k2 - (k + 1)) (k + 1)
    rw [show k + 1 + (k2 - (k + 1)) = k2 by omega] at m1
    omega
  · subst z
    exact ⟨rfl, by omega⟩
  · have m1 := fd_ff (P := P) (ka := ka) (k - (k2 + 1)) (k2 + 1)
    rw [show k2 + 1 + (k - (k2 + 1)) = k by omega] at m1
    omega
theorem fd_lt {P : pd_P} {ka : Nat → Nat × (Nat → Nat)} {k x : Nat} (hk : k < pd_m P) (h : x < ff_1 P ka k) : x + ff_n P ka k < ff_n P ka (pd_m P) := by
  have s1 : ff_n P ka (k + 1) = ff_n P ka k + ff_1 P ka k := rfl
  have m1 := fd_ff (P := P) (ka := ka) (pd_m P - (k + 1)) (k + 1)
  rw [show k + 1 + (pd_m P - (k + 1)) = pd_m P by omega] at m1
  omega
theorem fd_on {a b : Nat} (ha : a < 2147483648) (hb : b < 2147483648) (h : Int32.ofNat a = Int32.ofNat b) : a = b := by
  have := wi_eq.mp h
  rw [wi_on ha, wi_on hb] at this
  omega
theorem fd_A0 {S : rn_N} {v : Nat → Nat} {P : pd_P} {U : Nat → np_A} {pn : Nat → Nat} {ka : Nat → Nat × (Nat → Nat)} {bg : Nat → Nat → Bool} {L : Nat → Nat → Int64} {k x : Nat} {b : Bool} (h : fb_A S 0 v P U pn ka bg L k x b) : b = false := by
  have nz : ∀ z : Prop, (b = true ↔ z) → ¬ z → b = false := fun z h1 h2 => by
    cases b with
    | true => exact (h2 (h1.mp rfl)).elim
    | false => rfl
  rcases h with ⟨_, mv, c, _, _, _, h⟩ | ⟨_, h⟩
  · refine nz _ h ?_
    rintro (⟨i, hi, _⟩ | ⟨_, ⟨t, ht, _⟩, _⟩)
    · omega
    · omega
  · refine nz _ h ?_
    rintro (⟨_, t, ht, _⟩ | ⟨_, ht, _⟩ | ⟨_, t, _, ht, _⟩ | ⟨_, t, _, ht, _⟩)
    all_goals omega
/-- both sides tell the same of a flip-flop -/
theorem fd_all {ki : Int32} {p lk : Nat} {A : Nat → nt_A} {g : Nat → Nat} {P : pd_P} {v : Nat → Nat} {ka kb : Nat → Nat × (Nat → Nat)} {I J : Nat → Nat → Int32} {L : Nat → Nat → Int64} {b b2 : Bool} (hm : pd_m P ≤ 155) (hf : ∀ i, i < pd_m P → ff_1 P kb i < 5000) (hs : ∀ i, i < pd_m P → ff_1 P ka i = ff_1 P kb i) (h345 : I 345 p = J 490 p) (h0 : 0 ≤ (J 490 p).toInt) (hz : lk = 0 → J 490 p = 0) (h1 : cr_B ki p lk A g P v ka I L b) (h2 : (ki = 0 ∧ (b2 = true ↔ lk = 0)) ∨ (ki = Int32.ofNat (1 + ff_n P kb (pd_m P)) ∧ (b2 = true ↔ 0 < J 490 p)) ∨ (∃ (k x : Nat), k < pd_m P ∧ x < ff_1 P kb k ∧ ki = Int32.ofNat (1 + (x + ff_n P kb k)) ∧ (lk = 0 → b2 = false) ∧ (0 < lk → cr_P k x lk (343 + p) A g P v L b → b = b2))) : b = b2 := by
  have hF := ff_n_lt hf (pd_m P) (Nat.le_refl _)
  have eF : ff_n P ka (pd_m P) = ff_n P kb (pd_m P) := ff_n_c _ hs
  have en : ∀ i, i < pd_m P → ff_n P ka i = ff_n P kb i := fun i hi => ff_n_c _ (fun j hj => hs j (by omega))
  have eqb : ∀ {z : Prop}, (b = true ↔ z) → (b2 = true ↔ z) → b = b2 := fun y1 y2 => Bool.eq_iff_iff.mpr (y1.trans y2.symm)
  have pos : 0 < J 490 p ↔ ¬ J 490 p = 0 := by
    rw [wi_lt, wi_0, wi_eq, wi_0]
    omega
  have n0 : ∀ a, a < 2147483647 → ¬ (0 : Int32) = Int32.ofNat (1 + a) := fun a ha e => by
    have := fd_on (a := 0) (by omega) (by omega) e
    omega
  have lt3 : ∀ k x, k < pd_m P → x < ff_1 P kb k → x + ff_n P kb k < ff_n P kb (pd_m P) := fun k x h3 h4 => fd_lt h3 h4
  rcases h1 with ⟨k1, h1⟩ | ⟨k1, k2, k3, rfl⟩ | ⟨k1, k2, h1⟩ | ⟨i, x, k1, k2, k3, k4, h1⟩
  · rcases h2 with ⟨_, h2⟩ | ⟨j2, h2⟩ | ⟨k, x, j1, j2, j3, h2⟩
    · exact eqb h1 h2
    · exact (n0 _ (by omega) (k1.symm.trans j2)).elim
    · have := lt3 k x j1 j2
      exact (n0 _ (by omega) (k1.symm.trans j3)).elim
  · rcases h2 with ⟨j1, h2⟩ | ⟨j2, h2⟩ | ⟨k, x, j1, j2, j3, h2⟩
    · exact (k2 j1).elim
    · cases b2 with
      | false => rfl
      | true => exact (pos.mp (h2.mp rfl) (hz k3)).elim
    · exact (h2.1 k3).symm
  · rcases h2 with ⟨j1, h2⟩ | ⟨j2, h2⟩ | ⟨k, x, j1, j2, j3, h2⟩
    · exact (n0 _ (by omega) (j1.symm.trans k2)).elim
    · rw [h345, ← pos] at h1
      exact eqb h1 h2
    · have := lt3 k x j1 j2
      have := fd_on (by omega) (by omega) (k2.symm.trans j3)
      omega
  · rw [hs i k2] at k3
    rw [en i k2] at k4
    have q1 := lt3 i x k2 k3
    rcases h2 with ⟨j1, h2⟩ | ⟨j2, h2⟩ | ⟨k, x2, j1, j2, j3, h2⟩
    · exact (n0 _ (by omega) (j1.symm.trans k4)).elim
    · have := fd_on (by omega) (by omega) (k4.symm.trans j2)
      omega
    · have q2 := lt3 k x2 j1 j2
      have q3 := fd_on (by omega) (by omega) (k4.symm.trans j3)
      obtain ⟨rfl, rfl⟩ := fd_in k3 j2 (by omega)
      exact h2.2 k1 h1
theorem fd_ko {ki : Int32} {F a : Nat} (hF : F < 1000000000) (h : fb_ko ki (2 + F)) (e : ki = Int32.ofNat a) (ha : a < 2 + F) : False := by
  rcases h with h | h
  · rw [e, wi_lt, wi_on (by omega), wi_0] at h
    omega
  · rw [e, wi_le, wi_on (by omega), wi_on (by omega)] at h
    omega
