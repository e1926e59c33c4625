/-! ===== the class weaves: letters of steps, copies, pairs ===== -/
theorem nb_00 {v : Nat} (h : nb (Int64.ofNat 0) v = true) : False := by
  rw [show Int64.ofNat 0 = 0 from rfl, nb_0] at h
  cases h
theorem nb_eq {a b : Bool} (h : a = true ↔ b = true) : a = b := by
  cases a <;> cases b
  · rfl
  · exact absurd (h.mpr rfl) (by decide)
  · exact absurd (h.mp rfl) (by decide)
  · rfl
/-- letters of the steps to some states -/
def ww_sm (L : Nat → Nat → Int64) (s : Nat) (en x : Int64) (u : Nat) : Prop := ∀ v, v < 64 → (nb x v = true ↔ ∃ e, 1 ≤ e ∧ e ≤ u ∧ nb en e = true ∧ nb (L 12 (s * 41 + e)) v = true)
def ww_hm (L : Nat → Nat → Int64) (en x : Int64) (u : Nat) : Prop := ∀ v, v < 64 → (nb x v = true ↔ ∃ e, 1 ≤ e ∧ e ≤ u ∧ nb en e = true ∧ nb (L 13 e) v = true)
theorem ww_or1 {P : Nat → Prop} {x y : Int64} {u v : Nat} (h : nb x v = true ↔ ∃ e, 1 ≤ e ∧ e ≤ u ∧ P e) (h2 : nb y v = true ↔ P (u + 1)) : nb (x ||| y) v = true ↔ ∃ e, 1 ≤ e ∧ e ≤ u + 1 ∧ P e := by
  rw [nb_or, nt_or_b, h, h2]
  constructor
  · rintro (⟨e, a, b, c⟩ | g)
    · exact ⟨e, a, by omega, c⟩
    · exact ⟨u + 1, by omega, by omega, g⟩
  · rintro ⟨e, a, b, c⟩
    by_cases g : e = u + 1
    · subst g
      exact Or.inr c
    · exact Or.inl ⟨e, a, by omega, c⟩
def ww_h153 (u s : Nat) (en : Int64) (T : wv_T) (N : Nat) (I : Nat → Nat → Int32) (L : Nat → Nat → Int64) (R : Nat → Nat → Option Nat) : Nat → Option (Nat → wv_P) := fun pc =>
  if pc = 6 then some (fun mm lv st T1 N1 I1 L1 R1 nc ns => ∃ (k : Nat) (x : Int64), lv = [some (.ref 10), some (.int (Int32.ofNat s)), some (.long en), none, some (.long x), none, some (.int (Int32.ofNat (k + 1))), none, none, none, none] ∧ st = [] ∧ T1 = T ∧ N1 = N ∧ I1 = I ∧ L1 = L ∧ R1 = R ∧ nc = 0 ∧ ns = 0 ∧ k ≤ u ∧ mm = u - k ∧ ww_sm L s en x k)
  else none
def ww_h155 (u : Nat) (en : Int64) (T : wv_T) (N : Nat) (I : Nat → Nat → Int32) (L : Nat → Nat → Int64) (R : Nat → Nat → Option Nat) : Nat → Option (Nat → wv_P) := fun pc =>
  if pc = 5 then some (fun mm lv st T1 N1 I1 L1 R1 nc ns => ∃ (k : Nat) (x : Int64), lv = [some (.ref 10), some (.long en), none, some (.long x), none, some (.int (Int32.ofNat (k + 1))), none, none, none] ∧ st = [] ∧ T1 = T ∧ N1 = N ∧ I1 = I ∧ L1 = L ∧ R1 = R ∧ nc = 0 ∧ ns = 0 ∧ k ≤ u ∧ mm = u - k ∧ ww_hm L en x k)
  else none
def ww_h154 (u s : Nat) (ms be : Int64) (T : wv_T) (N : Nat) (I : Nat → Nat → Int32) (L : Nat → Nat → Int64) (R : Nat → Nat → Option Nat) : Nat → Option (Nat → wv_P) := fun pc =>
  if pc = 3 then some (fun mm lv st T1 N1 I1 L1 R1 nc ns => ∃ k : Nat, lv = [some (.ref 10), some (.int (Int32.ofNat s)), some (.long ms), none, some (.long be), none, some (.int (Int32.ofNat (k + 1))), none, none, none, none, none, none] ∧ st = [] ∧ T1 = T ∧ N1 = N ∧ I1 = I ∧ R1 = R ∧ nc = 0 ∧ ns = 0 ∧ k ≤ u ∧ mm = u - k ∧ ww_stp L L1 (fun s2 t => s2 = s ∧ 1 ≤ t ∧ t ≤ k ∧ nb be t = true) (fun _ t => ms &&& L 13 t))
  else none
def ww_c153 : wv_c1 := fun as T N I L R q => ∃ (u s : Nat) (en : Int64), as = [.ref 10, .int (Int32.ofNat s), .long en] ∧ wm_T T ∧ I 10 9 = Int32.ofNat u ∧ u ≤ 40 ∧ s < 41 ∧ ∀ x, ww_sm L s en x u → q (.inl (some (.long x))) T N I L R 0 0
set_option maxRecDepth 100000 in
theorem wM_153 : ∃ cb ci np, pt_mt 153 = some (5, cb, 7, false, some .long, ci, np) := ⟨_, _, _, rfl⟩
set_option maxRecDepth 100000 in
set_option maxHeartbeats 4000000 in
theorem ww_stepMask {sc : pt_Sc} {d : Nat} : wv_C wm_fx sc (d + 1 + 1) 153 ww_c153 := by
  rintro as T N I L R q ⟨u, s, en, rfl, hT, h9, hu, hs, h⟩ w0 HR
  obtain ⟨cb, ci, np, hm⟩ := wM_153
  have hc141 : wv_C wm_fx sc (d + 1) 141 ww_c141 := wv_C_deep (by omega) (ww_isIn (d := d))
  refine wv_meth (hh := none) rfl (sp := wv_sp [(141, ww_c141)]) (hd := ww_h153 u s en T N I L R) (n := 300) (n1 := 300) hm zc_153 rfl (wv_sp_ok (fun q hq => by rw [List.mem_singleton.mp hq]; exact hc141)) ?_ ?_ HR
  · exact ⟨u, 0, _, rfl, rfl, rfl, rfl, rfl, rfl, rfl, rfl, rfl, Nat.zero_le _, rfl, fun v hv => ⟨fun z => (nb_00 z).elim, fun ⟨e, a, b, _⟩ => by omega⟩⟩
  · intro pc P hP m lv st T1 N1 I1 L1 R1 nc ns hh
    unfold ww_h153 at hP
    split at hP
    · cases hP
      rename_i hpc
      subst hpc
      obtain ⟨k, x, rfl, rfl, rfl, rfl, rfl, rfl, rfl, rfl, rfl, hk, hmm, hx⟩ := hh
      have ek := wi_on (n := k + 1) (by omega)
      have eu := wi_on (n := u) (by omega)
      refine ⟨fun h1 => ?_, fun h1 => ?_⟩
      · have e : k = u := by rw [h9, wi_lt, ek, eu] at h1; omega
        subst e
        exact h x hx
      · have hlt : k < u := by rw [h9, wi_lt, ek, eu] at h1; omega
        refine ⟨en, k + 1, rfl, by omega, ?_⟩
        have e5 := wi_41 s (k + 1)
        have ei := wi_on (n := s * 41 + (k + 1)) (by omega)
        have eim := wi_onn (n := s * 41 + (k + 1)) (by omega)
        refine ⟨fun h2 => ?_, fun h2 => ?_⟩
        · have hb := wb_i_0.mp h2
          refine ⟨u - (k + 1), by omega, k + 1, _, by rw [← wq_4s (k + 1)]; rfl, rfl, rfl, rfl, rfl, rfl, rfl, rfl, rfl, by omega, rfl, fun v hv => ?_⟩
          refine ww_or1 (P := fun e => nb en e = true ∧ nb (L1 12 (s * 41 + e)) v = true) (hx v hv) ⟨fun z => ?_, fun z => ?_⟩
          · exact (nb_00 z).elim
          · rw [hb] at z
            cases z.1
        · have hb := wb_i_1.mp h2
          refine ⟨_, wm_t hT rfl, by rw [e5, wi_le, ei, wi_0]; omega, ?_⟩
          refine ⟨u - (k + 1), by omega, k + 1, _, by rw [← wq_4s (k + 1)]; rfl, rfl, rfl, rfl, rfl, rfl, rfl, rfl, rfl, by omega, rfl, fun v hv => ?_⟩
          rw [e5, eim]
          exact ww_or1 (P := fun e => nb en e = true ∧ nb (L1 12 (s * 41 + e)) v = true) (hx v hv) ⟨fun z => ⟨hb, z⟩, fun z => z.2⟩
    · cases hP
def ww_c155 : wv_c1 := fun as T N I L R q => ∃ (u : Nat) (en : Int64), as = [.ref 10, .long en] ∧ wm_T T ∧ I 10 9 = Int32.ofNat u ∧ u ≤ 40 ∧ ∀ x, ww_hm L en x u → q (.inl (some (.long x))) T N I L R 0 0
set_option maxRecDepth 100000 in
theorem wM_155 : ∃ cb ci np, pt_mt 155 = some (5, cb, 6, false, some .long, ci, np) := ⟨_, _, _, rfl⟩
set_option maxRecDepth 100000 in
set_option maxHeartbeats 4000000 in
theorem ww_headMask {sc : pt_Sc} {d : Nat} : wv_C wm_fx sc (d + 1 + 1) 155 ww_c155 := by
  rintro as T N I L R q ⟨u, en, rfl, hT, h9, hu, h⟩ w0 HR
  obtain ⟨cb, ci, np, hm⟩ := wM_155
  have hc141 : wv_C wm_fx sc (d + 1) 141 ww_c141 := wv_C_deep (by omega) (ww_isIn (d := d))
  refine wv_meth (hh := none) rfl (sp := wv_sp [(141, ww_c141)]) (hd := ww_h155 u en T N I L R) (n := 300) (n1 := 300) hm zc_155 rfl (wv_sp_ok (fun q hq => by rw [List.mem_singleton.mp hq]; exact hc141)) ?_ ?_ HR
  · exact ⟨u, 0, _, rfl, rfl, rfl, rfl, rfl, rfl, rfl, rfl, rfl, Nat.zero_le _, rfl, fun v hv => ⟨fun z => (nb_00 z).elim, fun ⟨e, a, b, _⟩ => by omega⟩⟩
  · intro pc P hP m lv st T1 N1 I1 L1 R1 nc ns hh
    unfold ww_h155 at hP
    split at hP
    · cases hP
      rename_i hpc
      subst hpc
      obtain ⟨k, x, rfl, rfl, rfl, rfl, rfl, rfl, rfl, rfl, rfl, hk, hmm, hx⟩ := hh
      have ek := wi_on (n := k + 1) (by omega)
      have ekn := wi_onn (n := k + 1) (by omega)
      have eu := wi_on (n := u) (by omega)
      refine ⟨fun h1 => ?_, fun h1 => ?_⟩
      · have e : k = u := by rw [h9, wi_lt, ek, eu] at h1; omega
        subst e
        exact h x hx
      · have hlt : k < u := by rw [h9, wi_lt, ek, eu] at h1; omega
        refine ⟨en, k + 1, rfl, by omega, ?_⟩
        refine ⟨fun h2 => ?_, fun h2 => ?_⟩
        · have hb := wb_i_0.mp h2
          refine ⟨u - (k + 1), by omega, k + 1, _, by rw [← wq_4s (k + 1)]; rfl, rfl, rfl, rfl, rfl, rfl, rfl, rfl, rfl, by omega, rfl, fun v hv => ?_⟩
          refine ww_or1 (P := fun e => nb en e = true ∧ nb (L1 13 e) v = true) (hx v hv) ⟨fun z => ?_, fun z => ?_⟩
          · exact (nb_00 z).elim
          · rw [hb] at z
            cases z.1
        · have hb := wb_i_1.mp h2
          refine ⟨_, wm_t hT rfl, by rw [wi_le, ek, wi_0]; omega, ?_⟩
          refine ⟨u - (k + 1), by omega, k + 1, _, by rw [← wq_4s (k + 1)]; rfl, rfl, rfl, rfl, rfl, rfl, rfl, rfl, rfl, by omega, rfl, fun v hv => ?_⟩
          rw [ekn]
          exact ww_or1 (P := fun e => nb en e = true ∧ nb (L1 13 e) v = true) (hx v hv) ⟨fun z => ⟨hb, z⟩, fun z => z.2⟩
    · cases hP
def ww_c154 : wv_c1 := fun as T N I L R q => ∃ (u s : Nat) (ms be : Int64), as = [.ref 10, .int (Int32.ofNat s), .long ms, .long be] ∧ wm_T T ∧ I 10 9 = Int32.ofNat u ∧ u ≤ 40 ∧ s < 41 ∧ ∀ L1, ww_stp L L1 (fun s2 t => s2 = s ∧ 1 ≤ t ∧ t ≤ u ∧ nb be t = true) (fun _ t => ms &&& L 13 t) → q (.inl none) T N I L1 R 0 0
set_option maxRecDepth 100000 in
theorem wM_154 : ∃ cb ci np, pt_mt 154 = some (5, cb, 7, false, none, ci, np) := ⟨_, _, _, rfl⟩
set_option maxRecDepth 100000 in
set_option maxHeartbeats 4000000 in
theorem ww_shareSteps {sc : pt_Sc} {d : Nat} : wv_C wm_fx sc (d + 1 + 1) 154 ww_c154 := by
  rintro as T N I L R q ⟨u, s, ms, be, rfl, hT, h9, hu, hs, h⟩ w0 HR
  obtain ⟨cb, ci, np, hm⟩ := wM_154
  have hc141 : wv_C wm_fx sc (d + 1) 141 ww_c141 := wv_C_deep (by omega) (ww_isIn (d := d))
  have hc142 : wv_C wm_fx sc (d + 1) 142 ww_c142 := wv_C_deep (by omega) (ww_addStep (d := d))
  refine wv_meth (hh := none) rfl (sp := wv_sp [(141, ww_c141), (142, ww_c142)]) (hd := ww_h154 u s ms be T N I L R) (n := 300) (n1 := 300) hm zc_154 rfl (wv_sp_ok (fun q hq => by
    rcases List.mem_cons.mp hq with h | h
    · rw [h]; exact hc141
    rw [List.mem_singleton.mp h]; exact hc142)) ?_ ?_ HR
  · exact ⟨u, 0, rfl, rfl, rfl, rfl, rfl, rfl, rfl, rfl, Nat.zero_le _, rfl, ww_stp_0 _ _ (fun s t _ _ z => by omega)⟩
  · intro pc P hP m lv st T1 N1 I1 L1 R1 nc ns hh
    unfold ww_h154 at hP
    split at hP
    · cases hP
      rename_i hpc
      subst hpc
      obtain ⟨k, rfl, rfl, rfl, rfl, rfl, rfl, rfl, rfl, hk, hmm, hx⟩ := hh
      have ek := wi_on (n := k + 1) (by omega)
      have ekn := wi_onn (n := k + 1) (by omega)
      have eu := wi_on (n := u) (by omega)
      refine ⟨fun h1 => ?_, fun h1 => ?_⟩
      · have e : k = u := by rw [h9, wi_lt, ek, eu] at h1; omega
        subst e
        exact h L1 hx
      · have hlt : k < u := by rw [h9, wi_lt, ek, eu] at h1; omega
        refine ⟨be, k + 1, rfl, by omega, ?_⟩
        refine ⟨fun h2 => ?_, fun h2 => ?_⟩
        · have hb := wb_i_0.mp h2
          refine ⟨u - (k + 1), by omega, k + 1, by rw [← wq_4s (k + 1)]; rfl, rfl, rfl, rfl, rfl, rfl, rfl, rfl, by omega, rfl, ww_stp_c hx (fun s2 t _ _ => ⟨fun z => ⟨z.1, z.2.1, ?_, z.2.2.2⟩, fun z => ⟨z.1, z.2.1, by omega, z.2.2.2⟩⟩) (fun _ _ _ _ _ => rfl)⟩
          by_cases e : t = k + 1
          · have := z.2.2.2
            rw [e, hb] at this
            cases this
          · omega
        · have hb := wb_i_1.mp h2
          refine ⟨_, wm_t hT rfl, by rw [wi_le, ek, wi_0]; omega, ?_⟩
          rw [ekn]
          refine ⟨s, k + 1, _, rfl, hT, hs, by omega, ?_⟩
          refine ⟨u - (k + 1), by omega, k + 1, by rw [← wq_4s (k + 1)]; rfl, rfl, rfl, rfl, rfl, rfl, rfl, rfl, by omega, rfl, ?_⟩
          refine ww_stp_1 hx hs (by omega) (fun z => by omega) (by rw [hx.2.2 _ _ (by decide) (by decide)]) (fun s2 t _ _ => ⟨fun z => ?_, fun z => ?_⟩)
          · by_cases e : t = k + 1
            · exact Or.inr ⟨z.1, e⟩
            · exact Or.inl ⟨z.1, z.2.1, by omega, z.2.2.2⟩
          · rcases z with z | ⟨rfl, rfl⟩
            · exact ⟨z.1, z.2.1, by omega, z.2.2.2⟩
            · exact ⟨rfl, by omega, by omega, hb⟩
    · cases hP
/-- the states a .. a + z - 1 copied h further -/
def ww_cC (L : Nat → Nat → Int64) (a z h : Nat) (s t : Nat) : Prop := (a + h ≤ s ∧ s < a + z + h) ∧ (a + h ≤ t ∧ t < a + z + h) ∧ nb (L 11 (s - h)) (t - h) = true
def ww_cH (L L1 : Nat → Nat → Int64) (a k h : Nat) : Prop := ∀ j, L1 13 j = if a + h ≤ j ∧ j < a + k + h then L 13 (j - h) else L 13 j
def ww_cp (L L1 : Nat → Nat → Int64) (C : Nat → Nat → Prop) (a k h : Nat) : Prop := ∃ L2, ww_stp L L2 C (fun s t => L 12 ((s - h) * 41 + (t - h))) ∧ (∀ c j, ¬ c = 13 → L1 c j = L2 c j) ∧ ww_cH L L1 a k h
theorem ww_cp_1 {L L1 : Nat → Nat → Int64} {C C2 : Nat → Nat → Prop} {a k h s t : Nat} {m : Int64} (hx : ww_cp L L1 C a k h) (hs : s < 41) (ht : t < 41) (hn : ¬ C s t) (hm : m = L 12 ((s - h) * 41 + (t - h))) (hc : ∀ s2 t2, s2 < 41 → t2 < 64 → (C2 s2 t2 ↔ C s2 t2 ∨ (s2 = s ∧ t2 = t))) : ww_cp L (ww_st L1 s t m) C2 a k h := by
  obtain ⟨L2, a1, a2, a3⟩ := hx
  refine ⟨ww_st L2 s t m, ww_stp_1 a1 hs ht hn hm hc, fun c j hc13 => ?_, fun j => ?_⟩
  · unfold ww_st wv_u
    rw [a2 11 s (by decide), a2 12 _ (by decide)]
    split
    · rfl
    · split
      · rfl
      · exact a2 c j hc13
  · rw [ww_st_F (by decide) (by decide)]
    exact a3 j
theorem ww_cp_c {L L1 : Nat → Nat → Int64} {C C2 : Nat → Nat → Prop} {a k h : Nat} (hx : ww_cp L L1 C a k h) (hc : ∀ s t, s < 41 → t < 64 → (C2 s t ↔ C s t)) : ww_cp L L1 C2 a k h := by
  obtain ⟨L2, a1, a2, a3⟩ := hx
  exact ⟨L2, ww_stp_c a1 hc (fun _ _ _ _ _ => rfl), a2, a3⟩
def ww_h144 (a z h : Nat) (T : wv_T) (N : Nat) (I : Nat → Nat → Int32) (L : Nat → Nat → Int64) (R : Nat → Nat → Option Nat) : Nat → Option (Nat → wv_P) := fun pc =>
  if pc = 3 then some (fun mm lv st T1 N1 I1 L1 R1 nc ns => ∃ (k : Nat) (x : Option Value), lv = [some (.ref 10), some (.int (Int32.ofNat a)), some (.int (Int32.ofNat z)), some (.int (Int32.ofNat h)), some (.int (Int32.ofNat (a + k))), x, none, none, none, none] ∧ st = [] ∧ T1 = T ∧ N1 = N ∧ I1 = I ∧ R1 = R ∧ nc = 0 ∧ ns = 0 ∧ k ≤ z ∧ mm = 100 * (z - k) ∧ ww_cp L L1 (fun s t => s < a + k + h ∧ ww_cC L a z h s t) a k h)
  else if pc = 30 then some (fun mm lv st T1 N1 I1 L1 R1 nc ns => ∃ k j : Nat, lv = [some (.ref 10), some (.int (Int32.ofNat a)), some (.int (Int32.ofNat z)), some (.int (Int32.ofNat h)), some (.int (Int32.ofNat (a + k))), some (.int (Int32.ofNat (a + j))), none, none, none, none] ∧ st = [] ∧ T1 = T ∧ N1 = N ∧ I1 = I ∧ R1 = R ∧ nc = 0 ∧ ns = 0 ∧ k < z ∧ j ≤ z ∧ mm = 100 * (z - k) - 1 - j ∧ ww_cp L L1 (fun s t => (s < a + k + h ∨ (s = a + k + h ∧ t < a + j + h)) ∧ ww_cC L a z h s t) a (k + 1) h)
  else none
theorem wi_ad1 (a k : Nat) : Int32.ofNat (a + k) + Int32.ofInt 1 = Int32.ofNat (a + (k + 1)) := wq_4s (a + k)
def ww_c144 : wv_c1 := fun as T N I L R q => ∃ a z h : Nat, as = [.ref 10, .int (Int32.ofNat a), .int (Int32.ofNat z), .int (Int32.ofNat h)] ∧ wm_T T ∧ a + z + h ≤ 41 ∧ z ≤ h ∧ ∀ L1, ww_cp L L1 (ww_cC L a z h) a z h → q (.inl none) T N I L1 R 0 0
set_option maxRecDepth 100000 in
theorem wM_144 : ∃ cb ci np, pt_mt 144 = some (5, cb, 6, false, none, ci, np) := ⟨_, _, _, rfl⟩
set_option maxRecDepth 100000 in
set_option maxHeartbeats 4000000 in
theorem ww_copyStates {sc : pt_Sc} {d : Nat} : wv_C wm_fx sc (d + 1 + 1) 144 ww_c144 := by
  rintro as T N I L R q ⟨a, z, h, rfl, hT, hb, hzh, g⟩ w0 HR
  obtain ⟨cb, ci, np, hm⟩ := wM_144
  have hc141 : wv_C wm_fx sc (d + 1) 141 ww_c141 := wv_C_deep (by omega) (ww_isIn (d := d))
  have hc142 : wv_C wm_fx sc (d + 1) 142 ww_c142 := wv_C_deep (by omega) (ww_addStep (d := d))
  refine wv_meth (hh := none) rfl (sp := wv_sp [(141, ww_c141), (142, ww_c142)]) (hd := ww_h144 a z h T N I L R) (n := 300) (n1 := 300) hm zc_144 rfl (wv_sp_ok (fun q hq => by
    rcases List.mem_cons.mp hq with h | h
    · rw [h]; exact hc141
    rw [List.mem_singleton.mp h]; exact hc142)) ?_ ?_ HR
  · exact ⟨100 * z, 0, _, rfl, rfl, rfl, rfl, rfl, rfl, rfl, rfl, Nat.zero_le _, rfl, L, ww_stp_0 _ _ (fun s t _ _ z => by have := z.1; have := z.2.1; omega), fun _ _ _ => rfl, fun j => by rw [if_neg (by omega)]⟩
  · intro pc P hP m lv st T1 N1 I1 L1 R1 nc ns hh
    unfold ww_h144 at hP
    have eaz : Int32.ofNat a + Int32.ofNat z = Int32.ofNat (a + z) := wi_ona a z
    have ez := wi_on (n := a + z) (by omega)
    split at hP
    · cases hP
      rename_i hpc
      subst hpc
      obtain ⟨k, x, rfl, rfl, rfl, rfl, rfl, rfl, rfl, rfl, hk, hmm, hx⟩ := hh
      have ek := wi_on (n := a + k) (by omega)
      have ekn := wi_onn (n := a + k) (by omega)
      refine ⟨fun h1 => ?_, fun h1 => ?_⟩
      · have e : k = z := by rw [eaz, wi_le, ek, ez] at h1; omega
        subst e
        exact g L1 (ww_cp_c hx (fun s t _ _ => ⟨fun y => ⟨y.1.2, y⟩, fun y => y.2⟩))
      · have hlt : k < z := by rw [eaz, wi_le, ek, ez] at h1; omega
        have ekh : Int32.ofNat (a + k) + Int32.ofNat h = Int32.ofNat (a + k + h) := wi_ona _ _
        have ekh2 := wi_on (n := a + k + h) (by omega)
        have ekhn := wi_onn (n := a + k + h) (by omega)
        refine ⟨_, wm_t hT rfl, by rw [wi_le, ek, wi_0]; omega, _, wm_t hT rfl, by rw [ekh, wi_le, ekh2, wi_0]; omega, by decide, ?_⟩
        rw [ekn, ekh, ekhn]
        refine ⟨100 * (z - k) - 1, by omega, k, 0, rfl, rfl, rfl, rfl, rfl, rfl, rfl, rfl, hlt, Nat.zero_le _, by omega, ?_⟩
        obtain ⟨L2, a1, a2, a3⟩ := hx
        refine ⟨L2, ww_stp_c a1 (fun s t _ _ => ⟨fun y => ⟨by have := y.2.2.1; omega, y.2⟩, fun y => ⟨Or.inl y.1, y.2⟩⟩) (fun _ _ _ _ _ => rfl), fun c j hc => ?_, fun j => ?_⟩
        · rw [wv_u_no _ _ (by omega)]
          exact a2 c j hc
        · by_cases e : j = a + k + h
          · subst e
            rw [wv_u_at, if_pos (by omega), a3, if_neg (by omega)]
            congr 1
            omega
          · rw [wv_u_no _ _ (by omega), a3]
            by_cases e2 : a + h ≤ j ∧ j < a + k + h
            · rw [if_pos e2, if_pos (by omega)]
            · rw [if_neg e2, if_neg (by omega)]
    · split at hP
      · cases hP
        rename_i hpc
        subst hpc
        obtain ⟨k, j, rfl, rfl, rfl, rfl, rfl, rfl, rfl, rfl, hk, hj, hmm, hx⟩ := hh
        have ek := wi_on (n := a + k) (by omega)
        have ekn := wi_onn (n := a + k) (by omega)
        have ej := wi_on (n := a + j) (by omega)
        refine ⟨fun h1 => ?_, fun h1 => ?_⟩
        · have e : j = z := by rw [eaz, wi_le, ej, ez] at h1; omega
          subst e
          exact ⟨100 * (j - (k + 1)), by omega, k + 1, _, by rw [← wi_ad1]; rfl, rfl, rfl, rfl, rfl, rfl, rfl, rfl, by omega, rfl, ww_cp_c hx (fun s t _ _ => ⟨fun y => ⟨by have := y.2.2.1.2; omega, y.2⟩, fun y => ⟨by omega, y.2⟩⟩)⟩
        · have hlt : j < z := by rw [eaz, wi_le, ej, ez] at h1; omega
          obtain ⟨L2, a1, a2, a3⟩ := id hx
          have hrow : ∀ t, t < 64 → (nb (L1 11 (a + k)) t = true ↔ nb (L 11 (a + k)) t = true) := fun t ht => by
            rw [a2 _ _ (by decide), a1.1 (a + k) t (by omega) ht]
            exact ⟨fun y => y.elim id (fun y => by have := y.2.1; omega), Or.inl⟩
          have hmk : L1 12 ((a + k) * 41 + (a + j)) = L 12 ((a + k) * 41 + (a + j)) := by
            rw [a2 _ _ (by decide)]
            exact nb_ext (fun v hv => (a1.2.1 (a + k) (a + j) v (by omega) (by omega) hv).2 (fun y => by have := y.2.1; omega))
          refine ⟨_, wm_t hT rfl, by rw [wi_le, ek, wi_0]; omega, ?_⟩
          rw [ekn]
          refine ⟨_, a + j, rfl, by omega, ?_⟩
          refine ⟨fun h2 => ?_, fun h2 => ?_⟩
          · have hb2 := wb_i_0.mp h2
            refine ⟨100 * (z - k) - 1 - (j + 1), by omega, k, j + 1, by rw [← wi_ad1 a j]; rfl, rfl, rfl, rfl, rfl, rfl, rfl, rfl, hk, by omega, rfl, ww_cp_c hx (fun s t _ _ => ⟨fun y => ⟨?_, y.2⟩, fun y => ⟨by omega, y.2⟩⟩)⟩
            by_cases e : s = a + k + h ∧ t = a + j + h
            · have := y.2.2.2
              rw [e.1, e.2, Nat.add_sub_cancel, Nat.add_sub_cancel] at this
              rw [(hrow (a + j) (by omega)).mpr this] at hb2
              cases hb2
            · omega
          · have hb2 := (hrow (a + j) (by omega)).mp (wb_i_1.mp h2)
            have e5 := wi_41 (a + k) (a + j)
            have ei := wi_on (n := (a + k) * 41 + (a + j)) (by omega)
            have eim := wi_onn (n := (a + k) * 41 + (a + j)) (by omega)
            refine ⟨_, wm_t hT rfl, by rw [e5, wi_le, ei, wi_0]; omega, ?_⟩
            rw [e5, eim, hmk, wi_ona, wi_ona]
            refine ⟨a + k + h, a + j + h, _, rfl, hT, by omega, by omega, ?_⟩
            refine ⟨100 * (z - k) - 1 - (j + 1), by omega, k, j + 1, by rw [← wi_ad1 a j]; rfl, rfl, rfl, rfl, rfl, rfl, rfl, rfl, hk, by omega, rfl, ?_⟩
            refine ww_cp_1 hx (by omega) (by omega) (fun y => by omega) (by rw [Nat.add_sub_cancel, Nat.add_sub_cancel]) (fun s t _ _ => ⟨fun y => ?_, fun y => ?_⟩)
            · by_cases e : s = a + k + h ∧ t = a + j + h
              · exact Or.inr e
              · exact Or.inl ⟨by omega, y.2⟩
            · rcases y with y | ⟨rfl, rfl⟩
              · exact ⟨by omega, y.2⟩
              · refine ⟨by omega, ⟨by omega, by omega⟩, ⟨by omega, by omega⟩, ?_⟩
                rw [Nat.add_sub_cancel, Nat.add_sub_cancel]
                exact hb2
      · cases hP
