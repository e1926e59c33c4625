/-! ===== classes: tables of moves, numbered by their first rows ===== -/
def df_w (z : List Nat) : Prop := ∀ v, v ∈ z → v < 64
def df_run (mv : Nat → Nat → Nat) : Nat → List Nat → Nat
  | c, [] => c
  | c, v :: z => df_run mv (mv c v) z
def df_ok (K : Nat) (mv : Nat → Nat → Nat) : Prop := 0 < K ∧ ∀ c, c < K → ∀ v, v < 64 → mv c v < K
/-- each one is found behind smaller ones -/
def df_bf (K : Nat) (mv : Nat → Nat → Nat) : Prop := ∀ c, 0 < c → c < K → ∃ p v, p < c ∧ v < 64 ∧ mv p v = c ∧ ∀ p2 v2, (p2 < p ∨ (p2 = p ∧ v2 < v)) → v2 < 64 → mv p2 v2 < c
def df_eq (mv : Nat → Nat → Nat) (kd : Nat → Nat) (mv2 : Nat → Nat → Nat) (kd2 : Nat → Nat) (c d : Nat) : Prop := ∀ z, df_w z → kd (df_run mv c z) = kd2 (df_run mv2 d z)
def df_min (K : Nat) (mv : Nat → Nat → Nat) (kd : Nat → Nat) : Prop := ∀ c d, c < K → d < K → df_eq mv kd mv kd c d → c = d
theorem df_w_nil : df_w [] := fun v h => by cases h
theorem df_w_cons {v : Nat} {z : List Nat} (hv : v < 64) (hz : df_w z) : df_w (v :: z) := fun u hu => by
  rcases List.mem_cons.mp hu with h | h
  · rw [h]; exact hv
  · exact hz u h
theorem df_eq_step {mv mv2 : Nat → Nat → Nat} {kd kd2 : Nat → Nat} {c d v : Nat} (h : df_eq mv kd mv2 kd2 c d) (hv : v < 64) : df_eq mv kd mv2 kd2 (mv c v) (mv2 d v) := fun z hz => h (v :: z) (df_w_cons hv hz)
theorem df_eq_join {mv mv2 : Nat → Nat → Nat} {kd kd2 : Nat → Nat} {c d e : Nat} (h : df_eq mv kd mv2 kd2 c e) (g : df_eq mv kd mv2 kd2 d e) : df_eq mv kd mv kd c d := fun z hz => (h z hz).trans (g z hz).symm
theorem df_eq_join2 {mv mv2 : Nat → Nat → Nat} {kd kd2 : Nat → Nat} {c d e : Nat} (h : df_eq mv kd mv2 kd2 e c) (g : df_eq mv kd mv2 kd2 e d) : df_eq mv2 kd2 mv2 kd2 c d := fun z hz => (h z hz).symm.trans (g z hz)
theorem df_eq_sym {mv mv2 : Nat → Nat → Nat} {kd kd2 : Nat → Nat} {c d : Nat} (h : df_eq mv kd mv2 kd2 c d) : df_eq mv2 kd2 mv kd d c := fun z hz => (h z hz).symm
theorem df_half {K1 K2 : Nat} {mv1 mv2 : Nat → Nat → Nat} {kd1 kd2 : Nat → Nat} (o2 : df_ok K2 mv2) (b1 : df_bf K1 mv1) (b2 : df_bf K2 mv2) (m1 : df_min K1 mv1 kd1) (m2 : df_min K2 mv2 kd2) (h0 : df_eq mv1 kd1 mv2 kd2 0 0) : ∀ c, c < K1 → c < K2 ∧ df_eq mv1 kd1 mv2 kd2 c c := by
  intro c
  induction c using Nat.strongRecOn with
  | ind c ih =>
    intro hc
    by_cases c0 : c = 0
    · subst c0
      exact ⟨o2.1, h0⟩
    · obtain ⟨p, v, p1, p2, p3, p4⟩ := b1 c (by omega) hc
      obtain ⟨pk, pe⟩ := ih p p1 (by omega)
      have hd : df_eq mv1 kd1 mv2 kd2 c (mv2 p v) := by
        have := df_eq_step pe p2
        rw [p3] at this
        exact this
      have hdk : mv2 p v < K2 := o2.2 p pk v p2
      have e : mv2 p v = c := by
        rcases Nat.lt_trichotomy (mv2 p v) c with g | g | g
        · exfalso
          obtain ⟨_, ie⟩ := ih (mv2 p v) g (by omega)
          have := m1 c (mv2 p v) hc (by omega) (df_eq_join hd ie)
          omega
        · exact g
        · exfalso
          obtain ⟨q, u, q1, q2, q3, q4⟩ := b2 c (by omega) (by omega)
          have hlt : q < p ∨ (q = p ∧ u < v) := by
            apply Classical.byContradiction
            intro hno
            by_cases hpq : p < q ∨ (p = q ∧ v < u)
            · have := q4 p v hpq p2
              omega
            · have e1 : p = q := by omega
              have e2 : v = u := by omega
              subst e1 e2
              omega
          have he := p4 q u hlt q2
          obtain ⟨_, qe⟩ := ih q q1 (by omega)
          have h1 := df_eq_step qe q2
          rw [q3] at h1
          obtain ⟨ek, ee⟩ := ih (mv1 q u) he (by omega)
          have := m2 c (mv1 q u) (by omega) ek (df_eq_join2 h1 ee)
          omega
      rw [e] at hd hdk
      exact ⟨hdk, hd⟩
/-- tables that tell the same are the same -/
theorem df_same {K1 K2 : Nat} {mv1 mv2 : Nat → Nat → Nat} {kd1 kd2 : Nat → Nat} (o1 : df_ok K1 mv1) (o2 : df_ok K2 mv2) (b1 : df_bf K1 mv1) (b2 : df_bf K2 mv2) (m1 : df_min K1 mv1 kd1) (m2 : df_min K2 mv2 kd2) (h0 : df_eq mv1 kd1 mv2 kd2 0 0) : K1 = K2 ∧ ∀ c, c < K1 → kd1 c = kd2 c ∧ ∀ v, v < 64 → mv1 c v = mv2 c v := by
  have f := df_half o2 b1 b2 m1 m2 h0
  have g := df_half o1 b2 b1 m2 m1 (df_eq_sym h0)
  have hK : K1 = K2 := by
    rcases Nat.lt_trichotomy K1 K2 with h | h | h
    · have := (g K1 h).1
      omega
    · exact h
    · have := (f K2 h).1
      omega
  subst hK
  refine ⟨rfl, fun c hc => ⟨(f c hc).2 [] df_w_nil, fun v hv => ?_⟩⟩
  have h1 := df_eq_step (f c hc).2 hv
  have k1 := o1.2 c hc v hv
  have k2 := o2.2 c hc v hv
  exact m2 _ _ k1 k2 (df_eq_join2 (f _ k1).2 h1)
/-! ===== alike ones put together ===== -/
section DFQ
variable {K C : Nat} {mv : Nat → Nat → Nat} {kd g f : Nat → Nat}
/-- g: the class of each; f: the first one of a class -/
def df_q (K C : Nat) (g f : Nat → Nat) : Prop := (∀ s, s < K → g s < C) ∧ (∀ c, c < C → f c < K ∧ g (f c) = c ∧ ∀ s, s < K → g s = c → f c ≤ s) ∧ ∀ c d, c < d → d < C → f c < f d
def df_st (K : Nat) (mv : Nat → Nat → Nat) (kd g : Nat → Nat) : Prop := ∀ s t, s < K → t < K → g s = g t → kd s = kd t ∧ ∀ v, v < 64 → g (mv s v) = g (mv t v)
def df_co (K : Nat) (mv : Nat → Nat → Nat) (kd g : Nat → Nat) : Prop := ∀ s t, s < K → t < K → df_eq mv kd mv kd s t → g s = g t
theorem df_q_run (ho : df_ok K mv) (hq : df_q K C g f) (hs : df_st K mv kd g) : ∀ z, df_w z → ∀ s, s < K → kd (f (df_run (fun c v => g (mv (f c) v)) (g s) z)) = kd (df_run mv s z) := by
  intro z
  induction z with
  | nil =>
    intro _ s hk
    obtain ⟨a, b, _⟩ := hq.2.1 (g s) (hq.1 s hk)
    exact (hs _ _ a hk b).1
  | cons v z ih =>
    intro hz s hk
    have hv : v < 64 := hz v List.mem_cons_self
    have hz2 : df_w z := fun u hu => hz u (List.mem_cons_of_mem _ hu)
    obtain ⟨a, b, _⟩ := hq.2.1 (g s) (hq.1 s hk)
    show kd (f (df_run (fun c v => g (mv (f c) v)) (g (mv (f (g s)) v)) z)) = kd (df_run mv (mv s v) z)
    rw [(hs _ _ a hk b).2 v hv]
    exact ih hz2 (mv s v) (ho.2 s hk v hv)
theorem df_run_lt (ho : df_ok K mv) : ∀ z, df_w z → ∀ s, s < K → df_run mv s z < K := by
  intro z
  induction z with
  | nil => exact fun _ s h => h
  | cons v z ih => exact fun hz s h => ih (fun u hu => hz u (List.mem_cons_of_mem _ hu)) (mv s v) (ho.2 s h v (hz v List.mem_cons_self))
theorem df_q_0 (ho : df_ok K mv) (hq : df_q K C g f) : 0 < C ∧ f 0 = 0 ∧ g 0 = 0 := by
  have h1 := hq.1 0 ho.1
  obtain ⟨a, b, c⟩ := hq.2.1 (g 0) h1
  have h2 := c 0 ho.1 rfl
  have h3 : f (g 0) = 0 := by omega
  have h4 : g 0 = 0 := by
    rcases Nat.eq_zero_or_pos (g 0) with e | e
    · exact e
    · have := hq.2.2 0 (g 0) e h1
      omega
  rw [h4] at h3
  exact ⟨by omega, h3, h4⟩
theorem df_q_all (ho : df_ok K mv) (hb : df_bf K mv) (hq : df_q K C g f) (hs : df_st K mv kd g) (hc : df_co K mv kd g) :
    df_ok C (fun c v => g (mv (f c) v)) ∧ df_bf C (fun c v => g (mv (f c) v)) ∧ df_min C (fun c v => g (mv (f c) v)) (fun c => kd (f c)) ∧ df_eq (fun c v => g (mv (f c) v)) (fun c => kd (f c)) mv kd 0 0 := by
  obtain ⟨C0, f0, g0⟩ := df_q_0 ho hq
  have mono : ∀ c d, c < C → d < C → f c < f d → c < d := by
    intro c d hc1 hd h
    rcases Nat.lt_trichotomy c d with e | e | e
    · exact e
    · subst e; omega
    · have := hq.2.2 d c e hc1; omega
  refine ⟨⟨C0, fun c hc1 v hv => hq.1 _ (ho.2 _ (hq.2.1 c hc1).1 v hv)⟩, ?_, ?_, ?_⟩
  · intro c c0 cC
    obtain ⟨fk, fg, fl⟩ := hq.2.1 c cC
    have fpos : 0 < f c := by
      have := hq.2.2 0 c c0 cC
      omega
    obtain ⟨p, v, p1, p2, p3, p4⟩ := hb (f c) fpos fk
    have hpk : p < K := by omega
    obtain ⟨rk, rg, rl⟩ := hq.2.1 (g p) (hq.1 p hpk)
    have rep : f (g p) = p := by
      rcases Nat.eq_or_lt_of_le (rl p hpk rfl) with e | e
      · exact e
      · exfalso
        have h1 := p4 (f (g p)) v (Or.inl e) p2
        have h2 := (hs _ _ rk hpk rg).2 v p2
        rw [p3, fg] at h2
        have h3 := fl _ (ho.2 _ rk v p2) h2
        omega
    refine ⟨g p, v, mono _ _ (hq.1 p hpk) cC (by rw [rep]; exact p1), p2, ?_, ?_⟩
    · show g (mv (f (g p)) v) = c
      rw [rep, p3, fg]
    · intro d u hdu hu
      show g (mv (f d) u) < c
      have hdC : d < C := by
        have := hq.1 p hpk
        omega
      obtain ⟨dk, dg, dl⟩ := hq.2.1 d hdC
      have hlt : mv (f d) u < f c := by
        refine p4 (f d) u ?_ hu
        rcases hdu with h | ⟨h, h2⟩
        · left
          have := hq.2.2 d (g p) h (hq.1 p hpk)
          omega
        · right
          rw [h, rep]
          exact ⟨rfl, h2⟩
      have hk2 := ho.2 _ dk u hu
      obtain ⟨xk, xg, xl⟩ := hq.2.1 (g (mv (f d) u)) (hq.1 _ hk2)
      have := xl _ hk2 rfl
      exact mono _ _ (hq.1 _ hk2) cC (by omega)
  · intro c d hc1 hd h
    obtain ⟨ck, cg, _⟩ := hq.2.1 c hc1
    obtain ⟨dk, dg, _⟩ := hq.2.1 d hd
    have : g (f c) = g (f d) := by
      refine hc _ _ ck dk (fun z hz => ?_)
      have h1 := df_q_run ho hq hs z hz (f c) ck
      have h2 := df_q_run ho hq hs z hz (f d) dk
      rw [cg] at h1
      rw [dg] at h2
      rw [← h1, ← h2]
      exact h z hz
    omega
  · intro z hz
    have := df_q_run ho hq hs z hz 0 ho.1
    rw [g0] at this
    exact this
/-- a finer grouping keeps what is alike together -/
theorem df_co_step {g2 : Nat → Nat} (ho : df_ok K mv) (hc : df_co K mv kd g) (h : ∀ s t, s < K → t < K → g s = g t → (∀ v, v < 64 → g (mv s v) = g (mv t v)) → g2 s = g2 t) : df_co K mv kd g2 :=
  fun s t hs ht he => h s t hs ht (hc s t hs ht he) (fun v hv => hc _ _ (ho.2 s hs v hv) (ho.2 t ht v hv) (df_eq_step he hv))
end DFQ
