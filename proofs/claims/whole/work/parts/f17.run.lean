/-! ===== the class: a sequence runs ===== -/
theorem sb_and : ∀ g v : Fin 64, (Int32.ofNat v.1 &&& Int32.ofNat g.1) = Int32.ofNat (v.1 &&& g.1) := by decide +kernel
theorem nb_low {x : Int64} : lg_cmp (x &&& Int64.ofNat 1) (Int64.ofNat 0) = 0 ↔ nb x 0 = false := by
  have e : (x &&& Int64.ofNat 1) = if nb x 0 = true then Int64.ofNat 1 else 0 := nb_ext (fun k hk => by
    rw [nb_and, nb_1]
    by_cases h : k = 0
    · subst h
      cases nb x 0
      · rfl
      · rfl
    · rw [decide_eq_false h, Bool.and_false]
      split
      · rw [nb_1, decide_eq_false h]
      · rw [nb_0])
  rw [e, lg_cmp_if]
theorem nb_meet {x y : Int64} : lg_cmp (x &&& y) (Int64.ofNat 0) = 0 ↔ ¬ ∃ t, t < 64 ∧ nb x t = true ∧ nb y t = true := by
  rw [lg_cmp_0]
  constructor
  · rintro h ⟨t, ht, h1, h2⟩
    have := nb_z.mp (show x &&& y = 0 from h) t ht
    rw [nb_and, h1, h2] at this
    cases this
  · intro h
    refine (nb_z.mpr (fun t ht => ?_) : x &&& y = 0)
    rw [nb_and]
    by_cases c : nb x t = true
    · by_cases c2 : nb y t = true
      · exact (h ⟨t, ht, c, c2⟩).elim
      · rw [Bool.eq_false_iff.mpr c2, Bool.and_false]
    · rw [Bool.eq_false_iff.mpr c, Bool.false_and]
def sq_c202 : wv_c1 := fun as T N I L R q => ∃ Q : Nat, as = [.ref Q] ∧ T Q = some (.inl 8) ∧ q (.inl (some (.int (I Q 2)))) T N I L R 0 0
set_option maxRecDepth 100000 in
theorem wM_202 : ∃ cb ci np, pt_mt 202 = some (9, cb, 1, false, some .int, ci, np) := ⟨_, _, _, rfl⟩
set_option maxRecDepth 100000 in
set_option maxHeartbeats 4000000 in
theorem sq_weight {sc : pt_Sc} {d : Nat} : wv_C wm_fx sc (d + 1) 202 sq_c202 := by
  rintro as T N I L R q ⟨Q, rfl, hQ, h⟩ w0 HR
  obtain ⟨cb, ci, np, hm⟩ := wM_202
  refine wv_meth (hh := none) rfl (sp := fun _ _ _ _ _ _ _ _ => False) (hd := fun _ => none) (n := 0) (n1 := 300) hm zc_202 rfl (fun k as T N I L R q h => by cases h) ?_ (fun pc P h => by cases h) HR
  exact ⟨hQ, h⟩
def sq_c206 : wv_c1 := fun as T N I L R q => ∃ Q : Nat, as = [.ref Q] ∧ T Q = some (.inl 8) ∧ q (.inl (some (.int (I Q 3)))) T N I L R 0 0
set_option maxRecDepth 100000 in
theorem wM_206 : ∃ cb ci np, pt_mt 206 = some (9, cb, 1, false, some .int, ci, np) := ⟨_, _, _, rfl⟩
set_option maxRecDepth 100000 in
set_option maxHeartbeats 4000000 in
theorem sq_signals {sc : pt_Sc} {d : Nat} : wv_C wm_fx sc (d + 1) 206 sq_c206 := by
  rintro as T N I L R q ⟨Q, rfl, hQ, h⟩ w0 HR
  obtain ⟨cb, ci, np, hm⟩ := wM_206
  refine wv_meth (hh := none) rfl (sp := fun _ _ _ _ _ _ _ _ => False) (hd := fun _ => none) (n := 0) (n1 := 300) hm zc_206 rfl (fun k as T N I L R q h => by cases h) ?_ (fun pc P h => by cases h) HR
  exact ⟨hQ, h⟩
def sq_c180 : wv_c1 := fun as T N I L R q => ∃ (Q : Nat) (x : Int64), as = [.ref Q, .long x] ∧ T Q = some (.inl 8) ∧ ((∃ t, t < 64 ∧ nb x t = true ∧ nb (L Q 4) t = true) → q (.inl (some (.int 1))) T N I L R 0 0) ∧ ((¬ ∃ t, t < 64 ∧ nb x t = true ∧ nb (L Q 4) t = true) → q (.inl (some (.int 0))) T N I L R 0 0)
set_option maxRecDepth 100000 in
theorem wM_180 : ∃ cb ci np, pt_mt 180 = some (9, cb, 3, false, some .boolean, ci, np) := ⟨_, _, _, rfl⟩
set_option maxRecDepth 100000 in
set_option maxHeartbeats 4000000 in
theorem sq_accepts {sc : pt_Sc} {d : Nat} : wv_C wm_fx sc (d + 1) 180 sq_c180 := by
  rintro as T N I L R q ⟨Q, x, rfl, hQ, h1, h0⟩ w0 HR
  obtain ⟨cb, ci, np, hm⟩ := wM_180
  refine wv_meth (hh := none) rfl (sp := fun _ _ _ _ _ _ _ _ => False) (hd := fun _ => none) (n := 0) (n1 := 300) hm zc_180 rfl (fun k as T N I L R q h => by cases h) ?_ (fun pc P h => by cases h) HR
  refine ⟨hQ, fun g1 => ?_, fun g1 => ?_⟩
  · exact ⟨⟨rfl, rfl⟩, h0 (nb_meet.mp g1)⟩
  · exact ⟨⟨rfl, rfl⟩, h1 (Decidable.not_not.mp (fun z => g1 (nb_meet.mpr z)))⟩
def sq_c198 : wv_c1 := fun as T N I L R q => ∃ (Q : Nat) (x : Int64), as = [.ref Q, .long x] ∧ T Q = some (.inl 8) ∧ ((∃ t, t < 64 ∧ nb x t = true ∧ nb (L Q 5) t = true) → q (.inl (some (.int 1))) T N I L R 0 0) ∧ ((¬ ∃ t, t < 64 ∧ nb x t = true ∧ nb (L Q 5) t = true) → q (.inl (some (.int 0))) T N I L R 0 0)
set_option maxRecDepth 100000 in
theorem wM_198 : ∃ cb ci np, pt_mt 198 = some (9, cb, 3, false, some .boolean, ci, np) := ⟨_, _, _, rfl⟩
set_option maxRecDepth 100000 in
set_option maxHeartbeats 4000000 in
theorem sq_canGoOn {sc : pt_Sc} {d : Nat} : wv_C wm_fx sc (d + 1) 198 sq_c198 := by
  rintro as T N I L R q ⟨Q, x, rfl, hQ, h1, h0⟩ w0 HR
  obtain ⟨cb, ci, np, hm⟩ := wM_198
  refine wv_meth (hh := none) rfl (sp := fun _ _ _ _ _ _ _ _ => False) (hd := fun _ => none) (n := 0) (n1 := 300) hm zc_198 rfl (fun k as T N I L R q h => by cases h) ?_ (fun pc P h => by cases h) HR
  refine ⟨hQ, fun g1 => ?_, fun g1 => ?_⟩
  · exact ⟨⟨rfl, rfl⟩, h0 (nb_meet.mp g1)⟩
  · exact ⟨⟨rfl, rfl⟩, h1 (Decidable.not_not.mp (fun z => g1 (nb_meet.mpr z)))⟩
def sq_h181 (Q B len n u : Nat) (v : Int32) (x : Int64) (T : wv_T) (N : Nat) (I : Nat → Nat → Int32) (L : Nat → Nat → Int64) (R : Nat → Nat → Option Nat) : Nat → Option (Nat → wv_P) := fun pc =>
  if pc = 17 then some (fun mm lv st T1 N1 I1 L1 R1 nc ns => ∃ (k : Nat) (a y : Int64), lv = [some (.ref Q), some (.long x), none, some (.int v), some (.long a), none, some (.long y), none, some (.int (Int32.ofNat (k * 64 + u))), some (.int (Int32.ofNat k)), none, none, none, none] ∧ st = [] ∧ T1 = T ∧ N1 = N ∧ I1 = I ∧ L1 = L ∧ R1 = R ∧ nc = 0 ∧ ns = 0 ∧ k ≤ n ∧ mm = n - k ∧ (∀ t, nb y t = nb x (k + t)) ∧ ∀ t, t < 64 → (nb a t = true ↔ ∃ s, s < k ∧ nb x s = true ∧ nb (L B (s * 64 + u)) t = true))
  else none
def sq_c181 : wv_c1 := fun as T N I L R q => ∃ (Q w g v : Nat) (A : nt_A) (x : Int64), as = [.ref Q, .long x, .int (Int32.ofNat v)] ∧ sq_D T I L R Q A w g ∧ v < 64 ∧ ∀ y, (∀ t, t < 64 → (nb y t = true ↔ ∃ s, s < nt_n A + 1 ∧ nb x s = true ∧ nz_D A s t (some (v &&& g)) ∧ nz_l A t)) → q (.inl (some (.long y))) T N I L R 0 0
set_option maxRecDepth 100000 in
theorem wM_181 : ∃ cb ci np, pt_mt 181 = some (9, cb, 10, false, some .long, ci, np) := ⟨_, _, _, rfl⟩
set_option maxRecDepth 100000 in
set_option maxHeartbeats 4000000 in
theorem sq_next {sc : pt_Sc} {d : Nat} : wv_C wm_fx sc (d + 1) 181 sq_c181 := by
  rintro as T N I L R q ⟨Q, w, g, v, A, x, rfl, ⟨hQ, hn1, _, hg3, hg, hn, _, _, B, len, hB, hTB, hlen, hD⟩, hv, h⟩ w0 HR
  obtain ⟨cb, ci, np, hm⟩ := wM_181
  refine wv_meth (hh := none) rfl (sp := fun _ _ _ _ _ _ _ _ => False) (hd := sq_h181 Q B len (nt_n A + 1) (v &&& g) (Int32.ofNat v) x T N I L R) (n := 300) (n1 := 300) hm zc_181 rfl (fun k as T N I L R q h => by cases h) ?_ ?_ HR
  · have e := sb_and ⟨g, hg⟩ ⟨v, hv⟩
    dsimp only at e
    refine ⟨hQ, ?_⟩
    refine ⟨nt_n A + 1 - 0, 0, Int64.ofNat 0, x, ?_, rfl, rfl, rfl, rfl, rfl, rfl, rfl, rfl, Nat.zero_le _, rfl, fun t => by rw [Nat.zero_add], fun t _ => ⟨fun z => (nb_00 z).elim, fun ⟨s, hs, _⟩ => by omega⟩⟩
    rw [show (0 * 64 + (v &&& g)) = v &&& g by omega, ← e, ← hg3]
    rfl
  · intro pc P hP m lv st T1 N1 I1 L1 R1 nc ns hh
    unfold sq_h181 at hP
    split at hP
    · cases hP
      rename_i hpc
      subst hpc
      obtain ⟨k, a, y, rfl, rfl, rfl, rfl, rfl, rfl, rfl, rfl, rfl, hk, hmm, hy, ha⟩ := hh
      have hu : v &&& g < 64 := Nat.lt_of_le_of_lt Nat.and_le_left hv
      have hug : (v &&& g) &&& g = v &&& g := by rw [Nat.and_assoc, Nat.and_self]
      have ek := wi_on (n := k) (by omega)
      have en := wi_on (n := nt_n A + 1) (by omega)
      have fin : (∀ s, k ≤ s → s < nt_n A + 1 → nb x s = false) → q (.inl (some (.long a))) T1 N1 I1 L1 R1 0 0 := by
        intro hz
        refine h a (fun t ht => ?_)
        rw [ha t ht]
        constructor
        · rintro ⟨s, s1, s2, s3⟩
          exact ⟨s, by omega, s2, (hD s (v &&& g) t (by omega) hu hug ht).mp s3⟩
        · rintro ⟨s, s1, s2, s3⟩
          by_cases c : s < k
          · exact ⟨s, c, s2, (hD s (v &&& g) t (by omega) hu hug ht).mpr s3⟩
          · rw [hz s (by omega) s1] at s2
            cases s2
      refine ⟨hQ, fun g1 => ?_, fun g1 => ?_⟩
      · rw [hn1, wi_le, ek, en] at g1
        exact fin (fun s s1 s2 => by omega)
      · have hlt : k < nt_n A + 1 := by rw [hn1, wi_le, ek, en] at g1; omega
        refine ⟨fun g2 => ?_, fun g2 => ?_⟩
        · have g2 : y = 0 := lg_cmp_0.mp g2
          refine fin (fun s s1 s2 => ?_)
          have := hy (s - k)
          rw [g2, nb_0, show k + (s - k) = s by omega] at this
          exact this.symm
        · have e6 := wi_on (n := k * 64 + (v &&& g)) (by omega)
          have e8 := wi_onn (n := k * 64 + (v &&& g)) (by omega)
          have hy0 : nb y 0 = nb x k := hy 0
          have hsh : ∀ t, nb ((y.toUInt64 >>> ((Int32.ofNat 1).toInt64.toUInt64 &&& Int64.toUInt64 63)).toInt64) t = nb x (k + 1 + t) := fun t => by
            rw [nb_ushr (by omega), hy, show k + (1 + t) = k + 1 + t by omega]
          have ei : Int32.ofNat (k * 64 + (v &&& g)) + Int32.ofInt 64 = Int32.ofNat ((k + 1) * 64 + (v &&& g)) := by
            rw [show Int32.ofInt 64 = Int32.ofNat 64 from rfl, ← Int32.ofNat_add, show k * 64 + (v &&& g) + 64 = (k + 1) * 64 + (v &&& g) by omega]
          refine ⟨fun g3 => ?_, fun g3 => ?_⟩
          · have g3 : nb x k = false := by rw [← hy0]; exact nb_low.mp g3
            refine ⟨nt_n A + 1 - (k + 1), by omega, k + 1, _, _, by rw [← ei, ← wq_4s k]; rfl, rfl, rfl, rfl, rfl, rfl, rfl, rfl, rfl, by omega, rfl, hsh, fun t ht => ?_⟩
            have e0 : a ||| Int64.ofNat 0 = a := nb_ext (fun t _ => by rw [nb_or, show Int64.ofNat 0 = 0 from rfl, nb_0, Bool.or_false])
            show nb (a ||| Int64.ofNat 0) t = true ↔ _
            rw [e0, ha t ht]
            constructor
            · rintro ⟨s, s1, s2⟩
              exact ⟨s, by omega, s2⟩
            · rintro ⟨s, s1, s2⟩
              by_cases c : s = k
              · subst c
                rw [g3] at s2
                cases s2.1
              · exact ⟨s, by omega, s2⟩
          · have g3 : nb x k = true := by
              rw [← hy0]
              cases hb : nb y 0
              · exact (g3 (nb_low.mpr hb)).elim
              · rfl
            refine ⟨hQ, B, hB, len, hTB, ⟨by rw [wi_le, e6, wi_0]; omega, by rw [e6]; omega⟩, ?_⟩
            rw [e8]
            refine ⟨nt_n A + 1 - (k + 1), by omega, k + 1, _, _, by rw [← ei, ← wq_4s k]; rfl, rfl, rfl, rfl, rfl, rfl, rfl, rfl, rfl, by omega, rfl, hsh, fun t ht => ?_⟩
            rw [nb_or, nt_or_b, ha t ht]
            constructor
            · rintro (⟨s, s1, s2⟩ | z)
              · exact ⟨s, by omega, s2⟩
              · exact ⟨k, by omega, g3, z⟩
            · rintro ⟨s, s1, s2, s3⟩
              by_cases c : s = k
              · subst c
                exact Or.inr s3
              · exact Or.inl ⟨s, by omega, s2, s3⟩
    · cases hP
