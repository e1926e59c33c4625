/-! ===== the class: a sequence laid out ===== -/
def bc_u (x y : Int32) : Int32 := (x.toUInt32 >>> (y.toUInt32 &&& Int32.toUInt32 31)).toInt32
def bc_1 (x : Int32) : Int32 := x - (bc_u x (Int32.ofInt 1) &&& 1431655765)
def bc_2 (x : Int32) : Int32 := (x &&& 858993459) + (bc_u x (Int32.ofInt 2) &&& 858993459)
def bc_3 (x : Int32) : Int32 := (x + bc_u x (Int32.ofInt 4)) &&& 252645135
def bc_4 (x : Int32) : Int32 := x + bc_u x (Int8.ofInt 8).toInt32
def bc_5 (x : Int32) : Int32 := x + bc_u x (Int8.ofInt 16).toInt32
def bc (x : Int32) : Int32 := bc_5 (bc_4 (bc_3 (bc_2 (bc_1 x)))) &&& (Int8.ofInt 63).toInt32
theorem bc_ok : ∀ g : Fin 64, bc (Int32.ofNat g.1) = Int32.ofNat (sb_c g.1) := by decide +kernel
def ww_h168 (g : Nat) (T : wv_T) (N : Nat) (I : Nat → Nat → Int32) (L : Nat → Nat → Int64) (R : Nat → Nat → Option Nat) : Nat → Option (Nat → wv_P) := fun pc =>
  if pc = 10 then some (fun mm lv st T1 N1 I1 L1 R1 nc ns => mm = 5 ∧ lv = [some (.int (bc_1 (Int32.ofNat g))), none] ∧ st = [] ∧ T1 = T ∧ N1 = N ∧ I1 = I ∧ L1 = L ∧ R1 = R ∧ nc = 0 ∧ ns = 0)
  else if pc = 24 then some (fun mm lv st T1 N1 I1 L1 R1 nc ns => mm = 4 ∧ lv = [some (.int (bc_2 (bc_1 (Int32.ofNat g)))), none] ∧ st = [] ∧ T1 = T ∧ N1 = N ∧ I1 = I ∧ L1 = L ∧ R1 = R ∧ nc = 0 ∧ ns = 0)
  else if pc = 34 then some (fun mm lv st T1 N1 I1 L1 R1 nc ns => mm = 3 ∧ lv = [some (.int (bc_3 (bc_2 (bc_1 (Int32.ofNat g))))), none] ∧ st = [] ∧ T1 = T ∧ N1 = N ∧ I1 = I ∧ L1 = L ∧ R1 = R ∧ nc = 0 ∧ ns = 0)
  else if pc = 41 then some (fun mm lv st T1 N1 I1 L1 R1 nc ns => mm = 2 ∧ lv = [some (.int (bc_4 (bc_3 (bc_2 (bc_1 (Int32.ofNat g)))))), none] ∧ st = [] ∧ T1 = T ∧ N1 = N ∧ I1 = I ∧ L1 = L ∧ R1 = R ∧ nc = 0 ∧ ns = 0)
  else if pc = 48 then some (fun mm lv st T1 N1 I1 L1 R1 nc ns => mm = 1 ∧ lv = [some (.int (bc_5 (bc_4 (bc_3 (bc_2 (bc_1 (Int32.ofNat g))))))), none] ∧ st = [] ∧ T1 = T ∧ N1 = N ∧ I1 = I ∧ L1 = L ∧ R1 = R ∧ nc = 0 ∧ ns = 0)
  else none
def ww_c168 : wv_c1 := fun as T N I L R q => ∃ g : Nat, as = [.int (Int32.ofNat g)] ∧ g < 64 ∧ q (.inl (some (.int (Int32.ofNat (sb_c g))))) T N I L R 0 0
set_option maxRecDepth 100000 in
theorem wM_168 : ∃ cb ci np, pt_mt 168 = some (26, cb, 1, false, some .int, ci, np) := ⟨_, _, _, rfl⟩
set_option maxRecDepth 100000 in
set_option maxHeartbeats 4000000 in
theorem ww_bitCount {sc : pt_Sc} {d : Nat} : wv_C wm_fx sc (d + 1) 168 ww_c168 := by
  rintro as T N I L R q ⟨g, rfl, hg, h⟩ w0 HR
  obtain ⟨cb, ci, np, hm⟩ := wM_168
  refine wv_meth (hh := none) rfl (sp := fun _ _ _ _ _ _ _ _ => False) (hd := ww_h168 g T N I L R) (n := 300) (n1 := 300) hm zc_168 rfl (fun k as T N I L R q h => by cases h) ?_ ?_ HR
  · exact ⟨5, rfl, rfl, rfl, rfl, rfl, rfl, rfl, rfl, rfl, rfl⟩
  · intro pc P hP m lv st T1 N1 I1 L1 R1 nc ns hh
    unfold ww_h168 at hP
    split at hP
    · cases hP
      rename_i hpc
      subst hpc
      obtain ⟨rfl, rfl, rfl, rfl, rfl, rfl, rfl, rfl, rfl, rfl⟩ := hh
      exact ⟨4, by decide, rfl, rfl, rfl, rfl, rfl, rfl, rfl, rfl, rfl, rfl⟩
    · split at hP
      · cases hP
        rename_i hpc
        subst hpc
        obtain ⟨rfl, rfl, rfl, rfl, rfl, rfl, rfl, rfl, rfl, rfl⟩ := hh
        exact ⟨3, by decide, rfl, rfl, rfl, rfl, rfl, rfl, rfl, rfl, rfl, rfl⟩
      · split at hP
        · cases hP
          rename_i hpc
          subst hpc
          obtain ⟨rfl, rfl, rfl, rfl, rfl, rfl, rfl, rfl, rfl, rfl⟩ := hh
          exact ⟨2, by decide, rfl, rfl, rfl, rfl, rfl, rfl, rfl, rfl, rfl, rfl⟩
        · split at hP
          · cases hP
            rename_i hpc
            subst hpc
            obtain ⟨rfl, rfl, rfl, rfl, rfl, rfl, rfl, rfl, rfl, rfl⟩ := hh
            exact ⟨1, by decide, rfl, rfl, rfl, rfl, rfl, rfl, rfl, rfl, rfl, rfl⟩
          · split at hP
            · cases hP
              rename_i hpc
              subst hpc
              obtain ⟨rfl, rfl, rfl, rfl, rfl, rfl, rfl, rfl, rfl, rfl⟩ := hh
              have e := bc_ok ⟨g, hg⟩
              dsimp only at e
              rw [← e] at h
              exact h
            · cases hP
def ww_c167 : wv_c1 := fun as T N I L R q => ∃ Q g : Nat, as = [.ref Q] ∧ T Q = some (.inl 8) ∧ I Q 3 = Int32.ofNat g ∧ g < 64 ∧ q (.inl (some (.int (Int32.ofNat (2 ^ sb_c g))))) T N I L R 0 0
set_option maxRecDepth 100000 in
theorem wM_167 : ∃ cb ci np, pt_mt 167 = some (9, cb, 1, false, some .int, ci, np) := ⟨_, _, _, rfl⟩
set_option maxRecDepth 100000 in
set_option maxHeartbeats 4000000 in
theorem ww_letterCount {sc : pt_Sc} {d : Nat} : wv_C wm_fx sc (d + 1 + 1) 167 ww_c167 := by
  rintro as T N I L R q ⟨Q, g, rfl, hQ, h3, hg, h⟩ w0 HR
  obtain ⟨cb, ci, np, hm⟩ := wM_167
  have hc168 : wv_C wm_fx sc (d + 1) 168 ww_c168 := wv_C_deep (by omega) (ww_bitCount (d := d))
  refine wv_meth (hh := none) rfl (sp := wv_sp [(168, ww_c168)]) (hd := fun _ => none) (n := 0) (n1 := 300) hm zc_167 rfl (wv_sp_ok (fun q hq => by rw [List.mem_singleton.mp hq]; exact hc168)) ?_ (fun pc P h => by cases h) HR
  refine ⟨hQ, ?_⟩
  rw [h3]
  refine ⟨g, rfl, hg, ?_⟩
  have := (sb_shl ⟨g, hg⟩).1
  dsimp only at this
  rw [← this] at h
  exact h
def ww_h165 (r n : Nat) (v : Int64) (T : wv_T) (N : Nat) (I : Nat → Nat → Int32) (L : Nat → Nat → Int64) (R : Nat → Nat → Option Nat) : Nat → Option (Nat → wv_P) := fun pc =>
  if pc = 6 then some (fun mm lv st T1 N1 I1 L1 R1 nc ns => ∃ j : Nat, lv = [some (.ref r), some (.long v), none, some (.int (Int32.ofNat j)), some (.int (Int32.ofNat n)), none, none, none] ∧ st = [] ∧ T1 = T ∧ N1 = N ∧ I1 = I ∧ R1 = R ∧ nc = 0 ∧ ns = 0 ∧ j ≤ n ∧ mm = n - j ∧ (∀ k, k < j → L1 r k = v) ∧ ∀ c k, ¬ (c = r ∧ k < j) → L1 c k = L c k)
  else none
def ww_c165 : wv_c1 := fun as T N I L R q => ∃ (r n : Nat) (v : Int64), as = [.ref r, .long v] ∧ T r = some (.inr (1, n)) ∧ n ≤ 100000 ∧ r < 1099511627776 ∧ ∀ L1, (∀ k, k < n → L1 r k = v) → (∀ c k, ¬ (c = r ∧ k < n) → L1 c k = L c k) → q (.inl none) T N I L1 R 0 0
set_option maxRecDepth 100000 in
theorem wM_165 : ∃ cb ci np, pt_mt 165 = some (15, cb, 5, false, none, ci, np) := ⟨_, _, _, rfl⟩
set_option maxRecDepth 100000 in
set_option maxHeartbeats 4000000 in
theorem ww_fillL {sc : pt_Sc} {d : Nat} : wv_C wm_fx sc (d + 1) 165 ww_c165 := by
  rintro as T N I L R q ⟨r, n, v, rfl, hr, hn, hr2, h⟩ w0 HR
  obtain ⟨cb, ci, np, hm⟩ := wM_165
  refine wv_meth (hh := none) rfl (sp := fun _ _ _ _ _ _ _ _ => False) (hd := ww_h165 r n v T N I L R) (n := 300) (n1 := 300) hm zc_165 rfl (fun k as T N I L R q h => by cases h) ?_ ?_ HR
  · exact ⟨_, _, hr, n - 0, 0, rfl, rfl, rfl, rfl, rfl, rfl, rfl, rfl, Nat.zero_le _, rfl, fun k hk => by omega, fun _ _ _ => rfl⟩
  · intro pc P hP m lv st T1 N1 I1 L1 R1 nc ns hh
    unfold ww_h165 at hP
    split at hP
    · cases hP
      rename_i hpc
      subst hpc
      obtain ⟨j, rfl, rfl, rfl, rfl, rfl, rfl, rfl, rfl, hj, hmm, a1, a2⟩ := hh
      have ej := wi_on (n := j) (by omega)
      have ejn := wi_onn (n := j) (by omega)
      have en := wi_on (n := n) (by omega)
      refine ⟨fun h1 => ?_, fun h1 => ?_⟩
      · have e : j = n := by rw [wi_le, ej, en] at h1; omega
        subst e
        exact h L1 a1 a2
      · have hlt : j < n := by rw [wi_le, ej, en] at h1; omega
        refine ⟨n, hr, ⟨by rw [wi_le, ej, wi_0]; omega, by rw [ej]; omega⟩, hr2, ?_⟩
        rw [ejn]
        refine ⟨n - (j + 1), by omega, j + 1, by rw [← wq_4s j]; rfl, rfl, rfl, rfl, rfl, rfl, rfl, rfl, by omega, rfl, fun k hk => ?_, fun c k hk => ?_⟩
        · by_cases e : k = j
          · subst e
            exact wv_u_at _ _ _ _
          · rw [wv_u_no _ _ (by omega)]
            exact a1 k (by omega)
        · rw [wv_u_no _ _ (by omega)]
          exact a2 c k (by omega)
    · cases hP
def sq_I (I : Nat → Nat → Int32) (Q s : Nat) (w g : Int32) : Nat → Nat → Int32 := wv_u (wv_u (wv_u I Q 1 (Int32.ofNat s)) Q 2 w) Q 3 g
def sq_L (L : Nat → Nat → Int64) (Q : Nat) (a l : Int64) : Nat → Nat → Int64 := wv_u (wv_u L Q 4 a) Q 5 l
theorem wi_64 (s t : Nat) : Int32.ofNat s * (Int8.ofInt 64).toInt32 + Int32.ofNat t = Int32.ofNat (s * 64 + t) := by
  rw [show (Int8.ofInt 64).toInt32 = Int32.ofNat 64 from rfl, ← Int32.ofNat_mul, ← Int32.ofNat_add]
theorem wi_64a (s : Nat) : Int32.ofNat s * (Int8.ofInt 64).toInt32 = Int32.ofNat (s * 64) := by
  rw [show (Int8.ofInt 64).toInt32 = Int32.ofNat 64 from rfl, ← Int32.ofNat_mul]
def ww_c164 : wv_c1 := fun as T N I L R q => ∃ (Q A len s : Nat) (w g : Int32) (a l : Int64), as = [.ref Q, .int (Int32.ofNat s), .int w, .int g, .long a, .long l] ∧ T Q = some (.inl 8) ∧ Q < 1099511627776 ∧ R Q 0 = some A ∧ T A = some (.inr (1, len)) ∧ len ≤ 2624 ∧ (0 < len → A < 1099511627776) ∧ 1 ≤ s ∧ s ≤ 41 ∧ N < 1000000000 ∧ (s * 64 ≤ len → ∀ L1, (∀ k, k < len → L1 A k = 0) → (∀ c k, ¬ (c = A ∧ k < len) → L1 c k = sq_L L Q a l c k) → q (.inl none) T N (sq_I I Q s w g) L1 R 0 0) ∧ (len < s * 64 → T N = none → q (.inl none) (wv_n T N (.inr (1, s * 64))) (N + 1) (wv_z (sq_I I Q s w g) N 0) (wv_z (sq_L L Q a l) N 0) (wv_u (wv_z R N none) Q 0 (some N)) 1 (0 + s * 64))
set_option maxRecDepth 100000 in
theorem wM_164 : ∃ cb ci np, pt_mt 164 = some (9, cb, 8, false, none, ci, np) := ⟨_, _, _, rfl⟩
set_option maxRecDepth 100000 in
set_option maxHeartbeats 4000000 in
theorem sq_set {sc : pt_Sc} {d : Nat} : wv_C wm_fx sc (d + 1 + 1) 164 ww_c164 := by
  rintro as T N I L R q ⟨Q, A, len, s, w, g, a, l, rfl, hQ, hQ2, hA, hT, hlen, hA2, hs1, hs, hN, h1, h2⟩ w0 HR
  obtain ⟨cb, ci, np, hm⟩ := wM_164
  have hc165 : wv_C wm_fx sc (d + 1) 165 ww_c165 := wv_C_deep (by omega) (ww_fillL (d := d))
  refine wv_meth (hh := none) rfl (sp := wv_sp [(165, ww_c165)]) (hd := fun _ => none) (n := 0) (n1 := 300) hm zc_164 rfl (wv_sp_ok (fun q hq => by rw [List.mem_singleton.mp hq]; exact hc165)) ?_ (fun pc P h => by cases h) HR
  have es := wi_64a s
  have e1 := wi_on (n := s * 64) (by omega)
  have e1n := wi_onn (n := s * 64) (by omega)
  have el := wi_on (n := len) (by omega)
  refine ⟨⟨hQ, hQ2⟩, ⟨hQ, hQ2⟩, ⟨hQ, hQ2⟩, ⟨hQ, hQ2⟩, ⟨hQ, hQ2⟩, hQ, A, hA, 1, len, hT, ?_, ?_⟩
  · rw [es]
    intro g1
    rw [wi_le, e1, el] at g1
    refine ⟨hQ, A, hA, ?_⟩
    exact ⟨A, len, _, rfl, hT, by omega, hA2 (by omega), fun L1 k1 k2 => h1 (by omega) L1 k1 k2⟩
  · rw [es]
    intro g1
    rw [wi_le, e1, el] at g1
    rw [← e1n] at h2
    refine ⟨⟨hN, by rw [es, wi_le, e1, wi_0]; omega, by rw [es, e1]; omega⟩, fun hNn => ?_⟩
    rw [es]
    have hne : ¬ Q = N := fun z => by rw [z, hNn] at hQ; cases hQ
    refine ⟨⟨?_, hQ2⟩, ?_⟩
    · show wv_n T N _ Q = _
      unfold wv_n
      rw [if_neg hne]
      exact hQ
    · exact h2 (by omega) hNn
/-- the letters of a step are laid down -/
def sq_A (A f t g : Nat) (m : Int64) (L L1 : Nat → Nat → Int64) (K : Nat → Prop) : Prop := (∀ v, v < 64 → v &&& g = v → ∀ t2, t2 < 64 → (nb (L1 A (f * 64 + v)) t2 = true ↔ nb (L A (f * 64 + v)) t2 = true ∨ (K v ∧ t2 = t ∧ nb m v = true))) ∧ ∀ c j, ¬ (c = A ∧ ∃ v, v < 64 ∧ v &&& g = v ∧ j = f * 64 + v) → L1 c j = L c j
def ww_h166 (Q A f t g : Nat) (m : Int64) (T : wv_T) (N : Nat) (I : Nat → Nat → Int32) (L : Nat → Nat → Int64) (R : Nat → Nat → Option Nat) : Nat → Option (Nat → wv_P) := fun pc =>
  if pc = 23 then some (fun mm lv st T1 N1 I1 L1 R1 nc ns => ∃ (k : Nat) (v : Nat), lv = [some (.ref Q), some (.int (Int32.ofNat f)), some (.int (Int32.ofNat t)), some (.long m), none, some (.int (Int32.ofNat v)), some (.int (Int32.ofNat (2 ^ sb_c g - k))), none, none, none, none, none] ∧ st = [] ∧ T1 = T ∧ N1 = N ∧ I1 = I ∧ R1 = R ∧ nc = 0 ∧ ns = 0 ∧ k ≤ 2 ^ sb_c g ∧ mm = 2 ^ sb_c g - k ∧ (k < 2 ^ sb_c g → v = sb_v g k) ∧ nb (L Q 5) t = true ∧ sq_A A f t g m L L1 (fun v => ∃ i, i < k ∧ sb_v g i = v))
  else none
theorem nb_bit {m : Int64} {v t : Nat} (hv : v < 64) (ht : t < 64) (t2 : Nat) (ht2 : t2 < 64) : nb (((m.toUInt64 >>> ((Int32.ofNat v).toInt64.toUInt64 &&& Int64.toUInt64 63)).toInt64 &&& Int64.ofNat 1) <<< ((Int32.ofNat t).toInt64 &&& 63)) t2 = true ↔ t2 = t ∧ nb m v = true := by
  rw [nb_test hv]
  by_cases h : nb m v = true
  · rw [if_pos h, nb_one ht]
    exact ⟨fun z => ⟨of_decide_eq_true z, h⟩, fun z => decide_eq_true z.1⟩
  · rw [if_neg h]
    have : (0 : Int64) <<< ((Int32.ofNat t).toInt64 &&& 63) = 0 := nb_z.mpr (fun k hk => by
      rw [nb_shl ht, nb_0, Bool.and_false])
    rw [this, nb_0]
    exact ⟨fun z => (by cases z), fun z => (h z.2).elim⟩
def ww_c166 : wv_c1 := fun as T N I L R q => ∃ (Q A len f t g : Nat) (m : Int64), as = [.ref Q, .int (Int32.ofNat f), .int (Int32.ofNat t), .long m] ∧ T Q = some (.inl 8) ∧ R Q 0 = some A ∧ T A = some (.inr (1, len)) ∧ A < 1099511627776 ∧ f * 64 + 64 ≤ len ∧ f ≤ 40 ∧ t < 64 ∧ I Q 3 = Int32.ofNat g ∧ g < 64 ∧ (nb (L Q 5) t = false → q (.inl none) T N I L R 0 0) ∧ (nb (L Q 5) t = true → ∀ L1, sq_A A f t g m L L1 (fun _ => True) → q (.inl none) T N I L1 R 0 0)
set_option maxRecDepth 100000 in
theorem wM_166 : ∃ cb ci np, pt_mt 166 = some (9, cb, 7, false, none, ci, np) := ⟨_, _, _, rfl⟩
set_option maxRecDepth 100000 in
set_option maxHeartbeats 4000000 in
theorem sq_addStep {sc : pt_Sc} {d : Nat} : wv_C wm_fx sc (d + 1 + 1 + 1) 166 ww_c166 := by
  rintro as T N I L R q ⟨Q, A, len, f, t, g, m1, rfl, hQ, hA, hT, hA2, hlen, hf, ht, hg3, hg, h0, h1⟩ w0 HR
  obtain ⟨cb, ci, np, hm⟩ := wM_166
  have hc167 : wv_C wm_fx sc (d + 1 + 1) 167 ww_c167 := wv_C_deep (by omega) (ww_letterCount (d := d))
  refine wv_meth (hh := none) rfl (sp := wv_sp [(167, ww_c167)]) (hd := ww_h166 Q A f t g m1 T N I L R) (n := 300) (n1 := 300) hm zc_166 rfl (wv_sp_ok (fun q hq => by rw [List.mem_singleton.mp hq]; exact hc167)) ?_ ?_ HR
  · refine ⟨hQ, fun g1 => ?_, fun g1 => ?_⟩
    · have g2 := (nb_c1 (by omega)).mp g1
      refine ⟨hQ, Q, g, rfl, hQ, hg3, hg, ?_⟩
      refine ⟨2 ^ sb_c g - 0, 0, 0, by rw [Nat.sub_zero]; rfl, rfl, rfl, rfl, rfl, rfl, rfl, rfl, Nat.zero_le _, rfl, fun _ => (sb_v0 hg).symm, g2, fun v _ _ t2 _ => ⟨Or.inl, fun z => z.elim id (fun ⟨⟨i, hi, _⟩, _⟩ => by omega)⟩, fun _ _ _ => rfl⟩
    · have g2 := (nb_c0 (by omega)).mp (Decidable.not_not.mp g1)
      exact h0 g2
  · intro pc P hP m lv st T1 N1 I1 L1 R1 nc ns hh
    unfold ww_h166 at hP
    split at hP
    · cases hP
      rename_i hpc
      subst hpc
      obtain ⟨k, v, rfl, rfl, rfl, rfl, rfl, rfl, rfl, rfl, hk, hmm, hv, hb, hs⟩ := hh
      have hp := sb_p hg
      have en := wi_on (n := 2 ^ sb_c g - k) (by omega)
      refine ⟨fun g1 => ?_, fun g1 => ?_⟩
      · have e : k = 2 ^ sb_c g := by rw [wi_le, en, wi_0] at g1; omega
        subst e
        refine h1 hb L1 ⟨fun v hv2 hvg t2 ht2 => ?_, hs.2⟩
        rw [hs.1 v hv2 hvg t2 ht2]
        obtain ⟨i, hi, he⟩ := sb_ex hg hv2 hvg
        exact ⟨fun z => z.elim Or.inl (fun z => Or.inr ⟨trivial, z.2⟩), fun z => z.elim Or.inl (fun z => Or.inr ⟨⟨i, hi, he⟩, z.2⟩)⟩
      · have hlt : k < 2 ^ sb_c g := by rw [wi_le, en, wi_0] at g1; omega
        have hvk := hv hlt
        subst hvk
        obtain ⟨m2, m3⟩ := sb_mem hg hlt
        have e6 := wi_64 f (sb_v g k)
        have e7 := wi_on (n := f * 64 + sb_v g k) (by omega)
        have e8 := wi_onn (n := f * 64 + sb_v g k) (by omega)
        have bd : 0 ≤ Int32.ofNat f * (Int8.ofInt 64).toInt32 + Int32.ofNat (sb_v g k) ∧ (Int32.ofNat f * (Int8.ofInt 64).toInt32 + Int32.ofNat (sb_v g k)).toInt < len := by rw [e6, wi_le, e7, wi_0]; omega
        refine ⟨hQ, A, hA, len, hT, bd, len, hT, bd, hA2, hQ, hQ, ?_⟩
        rw [e6, e8]
        have enx := sb_int ⟨g, hg⟩ ⟨sb_v g k, m2⟩
        dsimp only at enx
        have edec : Int32.ofNat (2 ^ sb_c g - k) + Int32.ofInt (-1) = Int32.ofNat (2 ^ sb_c g - (k + 1)) := by
          rw [show Int32.ofNat (2 ^ sb_c g - k) + Int32.ofInt (-1) = Int32.ofNat (2 ^ sb_c g - k) - Int32.ofInt 1 from by rw [Int32.sub_eq_add_neg]; rfl, wi_s1 (by omega) (by omega)]
          congr 1
        refine ⟨2 ^ sb_c g - (k + 1), by omega, k + 1, sb_n g (sb_v g k), by rw [← enx, ← hg3, ← edec]; rfl, rfl, rfl, rfl, rfl, rfl, rfl, rfl, by omega, rfl, fun z => sb_vn hg z, hb, fun v2 hv2 hvg t2 ht2 => ?_, fun c j hc => ?_⟩
        · by_cases e : v2 = sb_v g k
          · subst e
            rw [wv_u_at, nb_or, nt_or_b, hs.1 _ hv2 hvg t2 ht2]
            have hb2 := nb_bit (m := m1) m2 ht t2 ht2
            constructor
            · rintro ((z | ⟨⟨i, i1, i2⟩, z⟩) | z)
              · exact Or.inl z
              · exact Or.inr ⟨⟨i, by omega, i2⟩, z⟩
              · exact Or.inr ⟨⟨k, by omega, rfl⟩, hb2.mp z⟩
            · rintro (z | ⟨_, z⟩)
              · exact Or.inl (Or.inl z)
              · exact Or.inr (hb2.mpr z)
          · rw [wv_u_no _ _ (by omega), hs.1 v2 hv2 hvg t2 ht2]
            constructor
            · rintro (z | ⟨⟨i, i1, i2⟩, z⟩)
              · exact Or.inl z
              · exact Or.inr ⟨⟨i, by omega, i2⟩, z⟩
            · rintro (z | ⟨⟨i, i1, i2⟩, z⟩)
              · exact Or.inl z
              · refine Or.inr ⟨⟨i, ?_, i2⟩, z⟩
                by_cases ei : i = k
                · subst ei
                  exact (e i2.symm).elim
                · omega
        · rw [wv_u_no _ _ (fun z => hc ⟨z.1, sb_v g k, m2, m3, z.2⟩)]
          exact hs.2 c j hc
    · cases hP
