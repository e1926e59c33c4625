/-! ===== kinds of words ===== -/
/-- a word as letters of a sequence that looks at g -/
def kw (g : Nat) (z : List Nat) : Nat → Option Nat := fun k => (z[k]?).map (fun v => v &&& g)
theorem df_run_app (mv : Nat → Nat → Nat) : ∀ (l m : List Nat) (c : Nat), df_run mv c (l ++ m) = df_run mv (df_run mv c l) m
  | [], m, c => rfl
  | v :: l, m, c => df_run_app mv l m (mv c v)
theorem nz_s_lt {A : nt_A} {w : Nat → Option Nat} {i n t : Nat} (h : nz_s A w i n t) : t < nt_n A + 1 := by
  cases n with
  | zero =>
    rw [nz_s_0.mp h]
    omega
  | succ n =>
    obtain ⟨s, _, h2, _⟩ := nz_s_1.mp h
    exact (nz_D_b h2).2
theorem kx_run {A : nt_A} {g : Nat} {ss : List Int64} {tb : Nat → Nat → Nat} {z : List Nat} (hg : g < 64) (hA : nt_n A ≤ 6) (h : kx A g ss tb ss.length 0) (hz : df_w z) : ∀ n, n ≤ z.length → ∃ x, ss[df_run (kc_mv tb g) 0 (z.take n)]? = some x ∧ ∀ t, t < 64 → (nb x t = true ↔ nz_s A (kw g z) 0 n t) := by
  intro n
  induction n with
  | zero =>
    intro _
    refine ⟨Int64.ofNat 1, h.1, fun t _ => ?_⟩
    rw [nb_1, decide_eq_true_iff, nz_s_0]
  | succ n ih =>
    intro hn
    obtain ⟨x, x1, x2⟩ := ih (by omega)
    have e : z[n]? = some z[n] := List.getElem?_eq_getElem (by omega)
    have hv : z[n] < 64 := hz _ (List.getElem_mem _)
    have et : z.take (n + 1) = z.take n ++ [z[n]] := by
      rw [List.take_add_one, e]
      rfl
    obtain ⟨x3, y, y1, y2, y3⟩ := (kx_fin hg h).2.2 _ z[n] (List.getElem?_eq_some_iff.mp x1).1 hv
    rw [x1] at y1
    cases y1
    refine ⟨y, by rw [et, df_run_app]; exact y2, fun t ht => ?_⟩
    have ew : kw g z (0 + n) = some (z[n] &&& g) := by
      unfold kw
      rw [Nat.zero_add, e]
      rfl
    rw [y3 t ht, nz_s_1, ew]
    constructor
    · rintro ⟨s, s1, s2, s3⟩
      exact ⟨s, (x2 s (by omega)).mp s2, s3⟩
    · rintro ⟨s, s1, s2⟩
      have := nz_s_lt s1
      exact ⟨s, this, (x2 s (by omega)).mpr s1, s2⟩
/-- the kind of a word -/
def kc_z (A : nt_A) (g : Nat) (z : List Nat) (k : Nat) : Prop := (k = 3 ∧ nt_a A (kw g z) 0 (0 + z.length)) ∨ (k = 2 ∧ ¬ nt_a A (kw g z) 0 (0 + z.length) ∧ ∃ t, nz_s A (kw g z) 0 z.length t ∧ nz_l A t) ∨ (k = 0 ∧ ¬ nt_a A (kw g z) 0 (0 + z.length) ∧ ¬ ∃ t, nz_s A (kw g z) 0 z.length t ∧ nz_l A t)
theorem kc_kd_z {A : nt_A} {g k : Nat} {z : List Nat} {x : Int64} (hA : nt_n A ≤ 6) (hx : ∀ t, t < 64 → (nb x t = true ↔ nz_s A (kw g z) 0 z.length t)) (h : kc_kd A x k) : kc_z A g z k := by
  have e1 : (∃ t, t < 64 ∧ nb x t = true ∧ nz_F A t) ↔ nt_a A (kw g z) 0 (0 + z.length) := by
    rw [nz_s_a]
    constructor
    · rintro ⟨t, t1, t2, t3⟩
      exact ⟨t, (hx t t1).mp t2, t3⟩
    · rintro ⟨t, t1, t2⟩
      have := nz_s_lt t1
      exact ⟨t, by omega, (hx t (by omega)).mpr t1, t2⟩
  have e2 : (∃ t, t < 64 ∧ nb x t = true ∧ t < nt_n A + 1 ∧ nz_l A t) ↔ ∃ t, nz_s A (kw g z) 0 z.length t ∧ nz_l A t := by
    constructor
    · rintro ⟨t, t1, t2, t3, t4⟩
      exact ⟨t, (hx t t1).mp t2, t4⟩
    · rintro ⟨t, t1, t2⟩
      have := nz_s_lt t1
      exact ⟨t, by omega, (hx t (by omega)).mpr t1, this, t2⟩
  unfold kc_kd at h
  rw [e1, e2] at h
  exact h
theorem kc_all {A : nt_A} {g : Nat} {ss : List Int64} {tb : Nat → Nat → Nat} {kd gr : Nat → Nat} (hg : g < 64) (hA : nt_n A ≤ 6) (h : kx A g ss tb ss.length 0) (hk : ∀ i x, ss[i]? = some x → kc_kd A x (kd i)) (hr : kgr ss.length (kc_mv tb g) kd gr) (hs : df_st ss.length (kc_mv tb g) kd gr) :
    df_ok (kn gr ss.length) (fun c v => kn gr (gr (kc_mv tb g (kf gr ss.length c) v))) ∧ df_bf (kn gr ss.length) (fun c v => kn gr (gr (kc_mv tb g (kf gr ss.length c) v))) ∧ df_min (kn gr ss.length) (fun c v => kn gr (gr (kc_mv tb g (kf gr ss.length c) v))) (fun c => kd (kf gr ss.length c)) ∧ ∀ z, df_w z → kc_z A g z (kd (kf gr ss.length (df_run (fun c v => kn gr (gr (kc_mv tb g (kf gr ss.length c) v))) 0 z))) := by
  obtain ⟨f1, f2, f3⟩ := kx_fin hg h
  obtain ⟨a1, a2, a3, a4⟩ := kq_all f1 f2 hr hs
  refine ⟨a1, a2, a3, fun z hz => ?_⟩
  have a5 : kd (kf gr ss.length (df_run (fun c v => kn gr (gr (kc_mv tb g (kf gr ss.length c) v))) 0 z)) = kd (df_run (kc_mv tb g) 0 z) := a4 z hz
  rw [a5]
  obtain ⟨x, x1, x2⟩ := kx_run hg hA h hz z.length (Nat.le_refl _)
  rw [List.take_length] at x1
  exact kc_kd_z hA x2 (hk _ x x1)
