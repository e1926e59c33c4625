/-! ===== groups of sets ===== -/
section KG
variable {K : Nat} {mv : Nat → Nat → Nat} {kd gr gr2 : Nat → Nat} {P : Nat → Nat → Prop}
/-- each one is with the first that is as it is -/
def kg (K : Nat) (P : Nat → Nat → Prop) (gr : Nat → Nat) : Prop := ∀ s, s < K → gr s ≤ s ∧ P (gr s) s ∧ ∀ f, f < gr s → ¬ P f s
def kg_e (K : Nat) (P : Nat → Nat → Prop) : Prop := (∀ s t, s < K → t < K → P s t → P t s) ∧ ∀ s t u, s < K → t < K → u < K → P s t → P t u → P s u
theorem kg_iff (he : kg_e K P) (h : kg K P gr) {s t : Nat} (hs : s < K) (ht : t < K) : gr s = gr t ↔ P s t := by
  obtain ⟨a1, a2, a3⟩ := h s hs
  obtain ⟨b1, b2, b3⟩ := h t ht
  constructor
  · intro e
    rw [← e] at b2
    exact he.2 s (gr s) t hs (by omega) ht (he.1 _ _ (by omega) hs a2) b2
  · intro e
    have c1 : P (gr s) t := he.2 _ s t (by omega) hs ht a2 e
    have c2 : P (gr t) s := he.2 _ t s (by omega) ht hs b2 (he.1 _ _ hs ht e)
    rcases Nat.lt_trichotomy (gr s) (gr t) with z | z | z
    · exact (b3 _ z c1).elim
    · exact z
    · exact (a3 _ z c2).elim
theorem kg_gg (he : kg_e K P) (h : kg K P gr) {s : Nat} (hs : s < K) : gr (gr s) = gr s := (kg_iff he h (by have := (h s hs).1; omega) hs).mpr (h s hs).2.1
def kg_0 (kd : Nat → Nat) (f s : Nat) : Prop := kd f = kd s
def kg_1 (mv : Nat → Nat → Nat) (gr : Nat → Nat) (f s : Nat) : Prop := gr f = gr s ∧ ∀ v, v < 64 → gr (mv f v) = gr (mv s v)
theorem kg_0e : kg_e K (kg_0 kd) := ⟨fun s t _ _ h => Eq.symm h, fun s t u _ _ _ h g => Eq.trans h g⟩
theorem kg_1e : kg_e K (kg_1 mv gr) := ⟨fun s t _ _ h => ⟨h.1.symm, fun v hv => (h.2 v hv).symm⟩, fun s t u _ _ _ h g => ⟨h.1.trans g.1, fun v hv => (h.2 v hv).trans (g.2 v hv)⟩⟩
def kgr (K : Nat) (mv : Nat → Nat → Nat) (kd gr : Nat → Nat) : Prop := (∀ s, s < K → gr s ≤ s ∧ gr (gr s) = gr s) ∧ (∀ s t, s < K → t < K → gr s = gr t → kd s = kd t) ∧ df_co K mv kd gr
theorem kgr_0 (h : kg K (kg_0 kd) gr) : kgr K mv kd gr := by
  refine ⟨fun s hs => ⟨(h s hs).1, kg_gg kg_0e h hs⟩, fun s t hs ht e => (kg_iff kg_0e h hs ht).mp e, fun s t hs ht e => (kg_iff kg_0e h hs ht).mpr ?_⟩
  exact e [] df_w_nil
theorem kgr_1 (ho : df_ok K mv) (h : kgr K mv kd gr) (h2 : kg K (kg_1 mv gr) gr2) : kgr K mv kd gr2 := by
  refine ⟨fun s hs => ⟨(h2 s hs).1, kg_gg kg_1e h2 hs⟩, fun s t hs ht e => h.2.1 s t hs ht ((kg_iff kg_1e h2 hs ht).mp e).1, df_co_step ho h.2.2 (fun s t hs ht e1 e2 => (kg_iff kg_1e h2 hs ht).mpr ⟨e1, e2⟩)⟩
theorem kgr_st (ho : df_ok K mv) (h : kgr K mv kd gr) (h2 : kg K (kg_1 mv gr) gr2) (e : ∀ s, s < K → gr2 s = gr s) : df_st K mv kd gr2 := by
  intro s t hs ht e2
  obtain ⟨c1, c2⟩ := (kg_iff kg_1e h2 hs ht).mp e2
  refine ⟨h.2.1 s t hs ht c1, fun v hv => ?_⟩
  rw [e _ (ho.2 s hs v hv), e _ (ho.2 t ht v hv)]
  exact c2 v hv
def kg_c (K : Nat) (gr : Nat → Nat) (x : Nat) : Prop := x < K ∧ gr x = x
theorem kgr_more (h : kgr K mv kd gr) (h2 : kg K (kg_1 mv gr) gr2) {s : Nat} (hs : s < K) (e : ¬ gr2 s = gr s) : nz_c (kg_c K gr) K < nz_c (kg_c K gr2) K := by
  have hl := (h2 s hs).1
  have hp := (h2 s hs).2.1.1
  refine nz_c_lt (y := gr2 s) (fun x hx => ⟨hx.1, ?_⟩) (by omega) (fun z => ?_) ⟨by omega, kg_gg kg_1e h2 hs⟩
  · obtain ⟨q1, q2⟩ := hx
    obtain ⟨b1, b2, b3⟩ := h2 x q1
    have b4 := b2.1
    have b5 := (h.1 (gr2 x) (by omega)).1
    omega
  · have z2 := z.2
    rw [hp] at z2
    exact e z2.symm
/-- how many firsts there are below, and which is the c-th -/
def kn (gr : Nat → Nat) (n : Nat) : Nat := cn_c (fun x => decide (gr x = x)) n
theorem kn_y {x : Nat} (h : gr x = x) : kn gr (x + 1) = kn gr x + 1 := by
  show cn_c _ x + (if decide (gr x = x) = true then 1 else 0) = _
  rw [if_pos (decide_eq_true h)]
  rfl
theorem kn_n {x : Nat} (h : ¬ gr x = x) : kn gr (x + 1) = kn gr x := by
  show cn_c _ x + (if decide (gr x = x) = true then 1 else 0) = _
  rw [if_neg (by rw [decide_eq_true_iff]; exact h)]
  rfl
theorem kn_le {x : Nat} : ∀ d : Nat, kn gr x ≤ kn gr (x + d)
  | 0 => Nat.le_refl _
  | d + 1 => by
    have := kn_le (x := x) d
    by_cases c : gr (x + d) = x + d
    · have := kn_y c
      rw [← Nat.add_assoc]
      omega
    · have := kn_n c
      rw [← Nat.add_assoc]
      omega
theorem kn_lt {x y : Nat} (h : gr x = x) (hy : x < y) : kn gr x < kn gr y := by
  have := kn_y h
  have h2 := kn_le (gr := gr) (x := x + 1) (y - (x + 1))
  rw [show x + 1 + (y - (x + 1)) = y by omega] at h2
  omega
theorem kn_inj {x y : Nat} (hx : gr x = x) (hy : gr y = y) (h : kn gr x = kn gr y) : x = y := by
  rcases Nat.lt_trichotomy x y with z | z | z
  · have := kn_lt hx z
    omega
  · exact z
  · have := kn_lt hy z
    omega
theorem kn_b (x : Nat) : kn gr x ≤ x := cn_le _ _
def kf (gr : Nat → Nat) : Nat → Nat → Nat
  | 0, _ => 0
  | x + 1, c => if gr x = x ∧ kn gr x = c then x else kf gr x c
theorem kf_at : ∀ K c, c < kn gr K → kf gr K c < K ∧ gr (kf gr K c) = kf gr K c ∧ kn gr (kf gr K c) = c
  | 0, c, h => by
    have h : c < 0 := h
    omega
  | K + 1, c, h => by
    unfold kf
    by_cases z : gr K = K ∧ kn gr K = c
    · rw [if_pos z]
      exact ⟨by omega, z.1, z.2⟩
    · rw [if_neg z]
      have h2 : c < kn gr K := by
        by_cases y : gr K = K
        · have := kn_y y
          have : ¬ kn gr K = c := fun w => z ⟨y, w⟩
          omega
        · have := kn_n y
          omega
      obtain ⟨a1, a2, a3⟩ := kf_at K c h2
      exact ⟨by omega, a2, a3⟩
theorem kf_of {x : Nat} (hx : x < K) (h : gr x = x) : kf gr K (kn gr x) = x := by
  obtain ⟨_, a2, a3⟩ := kf_at K (kn gr x) (kn_lt h hx)
  exact kn_inj a2 h a3
theorem kq_q (h : ∀ s, s < K → gr s ≤ s ∧ gr (gr s) = gr s) : df_q K (kn gr K) (fun s => kn gr (gr s)) (kf gr K) := by
  refine ⟨fun s hs => kn_lt (h s hs).2 (by have := (h s hs).1; omega), fun c hc => ?_, fun c d hcd hd => ?_⟩
  · obtain ⟨a1, a2, a3⟩ := kf_at K c hc
    refine ⟨a1, by show kn gr (gr (kf gr K c)) = c; rw [a2]; exact a3, fun s hs e => ?_⟩
    have e : kn gr (gr s) = c := e
    have := kn_inj (h s hs).2 a2 (e.trans a3.symm)
    have := (h s hs).1
    omega
  · obtain ⟨a1, a2, a3⟩ := kf_at (gr := gr) K c (by omega)
    obtain ⟨b1, b2, b3⟩ := kf_at K d hd
    rcases Nat.lt_or_ge (kf gr K c) (kf gr K d) with z | z
    · exact z
    · have := kn_le (gr := gr) (x := kf gr K d) (kf gr K c - kf gr K d)
      rw [show kf gr K d + (kf gr K c - kf gr K d) = kf gr K c by omega] at this
      omega
/-- the classes that are told -/
theorem kq_all (ho : df_ok K mv) (hb : df_bf K mv) (h : kgr K mv kd gr) (hs : df_st K mv kd gr) :
    df_ok (kn gr K) (fun c v => kn gr (gr (mv (kf gr K c) v))) ∧ df_bf (kn gr K) (fun c v => kn gr (gr (mv (kf gr K c) v))) ∧ df_min (kn gr K) (fun c v => kn gr (gr (mv (kf gr K c) v))) (fun c => kd (kf gr K c)) ∧ df_eq (fun c v => kn gr (gr (mv (kf gr K c) v))) (fun c => kd (kf gr K c)) mv kd 0 0 := by
  refine df_q_all ho hb (kq_q h.1) (fun s t k1 k2 e => ?_) (fun s t k1 k2 e => ?_)
  · have e : kn gr (gr s) = kn gr (gr t) := e
    have e2 := kn_inj (h.1 s k1).2 (h.1 t k2).2 e
    obtain ⟨q1, q2⟩ := hs s t k1 k2 e2
    exact ⟨q1, fun v hv => by show kn gr (gr (mv s v)) = kn gr (gr (mv t v)); rw [q2 v hv]⟩
  · show kn gr (gr s) = kn gr (gr t)
    rw [h.2.2 s t k1 k2 e]
end KG
