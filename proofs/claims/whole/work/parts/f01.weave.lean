/-! ===== the class weaves: steps between states ===== -/
theorem lg_cmp_if {b : Bool} : lg_cmp (if b = true then Int64.ofNat 1 else 0) (Int64.ofNat 0) = 0 ↔ b = false := by
  rw [lg_cmp_0]
  exact nb_if
/-- the test of a bit -/
theorem nb_c0 {x : Int64} {k : Nat} (hk : k < 64) : lg_cmp ((x.toUInt64 >>> ((Int32.ofNat k).toInt64.toUInt64 &&& Int64.toUInt64 63)).toInt64 &&& Int64.ofNat 1) (Int64.ofNat 0) = 0 ↔ nb x k = false := by
  rw [nb_test hk, lg_cmp_if]
theorem nb_c1 {x : Int64} {k : Nat} (hk : k < 64) : ¬ lg_cmp ((x.toUInt64 >>> ((Int32.ofNat k).toInt64.toUInt64 &&& Int64.toUInt64 63)).toInt64 &&& Int64.ofNat 1) (Int64.ofNat 0) = 0 ↔ nb x k = true := by
  rw [nb_c0 hk]
  cases nb x k
  · exact ⟨fun h => (h rfl).elim, fun h => by cases h⟩
  · exact ⟨fun _ => rfl, fun _ h => by cases h⟩
def wb_i (b : Bool) : Int32 := if b = true then 1 else 0
theorem wi_mn {a b : Nat} (h : a * b < 2147483648) : Int32.ofNat a * Int32.ofNat b = Int32.ofNat (a * b) := (Int32.ofNat_mul a b).symm
theorem wi_41 (s t : Nat) : Int32.ofNat s * (Int8.ofInt 41).toInt32 + Int32.ofNat t = Int32.ofNat (s * 41 + t) := by
  rw [show (Int8.ofInt 41).toInt32 = Int32.ofNat 41 from rfl, ← Int32.ofNat_mul, ← Int32.ofNat_add]
/-- a step more -/
def ww_st (L : Nat → Nat → Int64) (s t : Nat) (m : Int64) : Nat → Nat → Int64 := wv_u (wv_u L 12 (s * 41 + t) (if nb (L 11 s) t = true then L 12 (s * 41 + t) ||| m else m)) 11 s (L 11 s ||| (Int64.ofNat 1 <<< ((Int32.ofNat t).toInt64 &&& 63)))
theorem ww_st_E {L : Nat → Nat → Int64} {s t s2 t2 : Nat} {m : Int64} (ht : t < 41) : nb (ww_st L s t m 11 s2) t2 = (nb (L 11 s2) t2 || decide (s2 = s ∧ t2 = t)) := by
  unfold ww_st
  by_cases h : s2 = s
  · subst h
    rw [wv_u_at, nb_or, nb_one (by omega)]
    congr 1
    by_cases g : t2 = t
    · rw [decide_eq_true g, decide_eq_true ⟨rfl, g⟩]
    · rw [decide_eq_false g, decide_eq_false (fun z => g z.2)]
  · rw [wv_u_no _ _ (by omega), wv_u_no _ _ (by omega), decide_eq_false (fun z => h z.1), Bool.or_false]
theorem ww_st_M {L : Nat → Nat → Int64} {s t s2 t2 v : Nat} {m : Int64} (ht : t < 41) (ht2 : t2 < 41) : nb (ww_st L s t m 12 (s2 * 41 + t2)) v = if s2 = s ∧ t2 = t then (nb (L 11 s) t && nb (L 12 (s * 41 + t)) v) || nb m v else nb (L 12 (s2 * 41 + t2)) v := by
  unfold ww_st
  rw [wv_u_no _ _ (by omega)]
  by_cases h : s2 = s ∧ t2 = t
  · obtain ⟨rfl, rfl⟩ := h
    rw [wv_u_at, if_pos (show s2 = s2 ∧ t2 = t2 from ⟨rfl, rfl⟩)]
    by_cases hb : nb (L 11 s2) t2 = true
    · rw [if_pos hb, nb_or, hb]
      rfl
    · rw [if_neg hb]
      have : nb (L 11 s2) t2 = false := Bool.eq_false_iff.mpr hb
      rw [this]
      rfl
  · rw [if_neg h, wv_u_no _ _ (by omega)]
theorem ww_st_F {L : Nat → Nat → Int64} {s t c j : Nat} {m : Int64} (h : ¬ c = 11) (h2 : ¬ c = 12) : ww_st L s t m c j = L c j := by
  unfold ww_st
  rw [wv_u_no _ _ (fun z => h z.1), wv_u_no _ _ (fun z => h2 z.1)]
/-- steps at pairs of C, each with its letters -/
def ww_stp (L L1 : Nat → Nat → Int64) (C : Nat → Nat → Prop) (hd : Nat → Nat → Int64) : Prop := (∀ s t, s < 41 → t < 64 → (nb (L1 11 s) t = true ↔ nb (L 11 s) t = true ∨ C s t)) ∧ (∀ s t v, s < 41 → t < 41 → v < 64 → (C s t → nb (L1 12 (s * 41 + t)) v = ((nb (L 11 s) t && nb (L 12 (s * 41 + t)) v) || nb (hd s t) v)) ∧ (¬ C s t → nb (L1 12 (s * 41 + t)) v = nb (L 12 (s * 41 + t)) v)) ∧ ∀ c j, ¬ c = 11 → ¬ c = 12 → L1 c j = L c j
theorem ww_stp_0 (L : Nat → Nat → Int64) (hd : Nat → Nat → Int64) {C : Nat → Nat → Prop} (h : ∀ s t, s < 41 → t < 64 → ¬ C s t) : ww_stp L L C hd := ⟨fun s t hs ht => ⟨Or.inl, fun z => z.elim id (fun y => (h s t hs ht y).elim)⟩, fun s t v hs ht _ => ⟨fun z => (h s t hs (by omega) z).elim, fun _ => rfl⟩, fun _ _ _ _ => rfl⟩
theorem ww_stp_c {L L1 : Nat → Nat → Int64} {C C2 : Nat → Nat → Prop} {hd hd2 : Nat → Nat → Int64} (h : ww_stp L L1 C hd) (hc : ∀ s t, s < 41 → t < 64 → (C2 s t ↔ C s t)) (hh : ∀ s t, s < 41 → t < 41 → C s t → hd2 s t = hd s t) : ww_stp L L1 C2 hd2 := by
  obtain ⟨h1, h2, h3⟩ := h
  refine ⟨fun s t hs ht => by rw [hc s t hs ht]; exact h1 s t hs ht, fun s t v hs ht hv => ⟨fun g => ?_, fun g => ?_⟩, h3⟩
  · have g2 := (hc s t hs (by omega)).mp g
    rw [hh s t hs ht g2]
    exact (h2 s t v hs ht hv).1 g2
  · exact (h2 s t v hs ht hv).2 (fun z => g ((hc s t hs (by omega)).mpr z))
theorem ww_stp_1 {L L1 : Nat → Nat → Int64} {C C2 : Nat → Nat → Prop} {hd : Nat → Nat → Int64} {s t : Nat} {m : Int64} (h : ww_stp L L1 C hd) (hs : s < 41) (ht : t < 41) (hn : ¬ C s t) (hm : m = hd s t) (hc : ∀ s2 t2, s2 < 41 → t2 < 64 → (C2 s2 t2 ↔ C s2 t2 ∨ (s2 = s ∧ t2 = t))) : ww_stp L (ww_st L1 s t m) C2 hd := by
  obtain ⟨h1, h2, h3⟩ := h
  subst hm
  refine ⟨fun s2 t2 hs2 ht2 => ?_, fun s2 t2 v hs2 ht2 hv => ⟨fun g => ?_, fun g => ?_⟩, fun c j a b => by rw [ww_st_F a b]; exact h3 c j a b⟩
  · rw [ww_st_E ht, hc s2 t2 hs2 ht2]
    constructor
    · intro g
      rcases nt_or_b.mp g with g | g
      · rcases (h1 s2 t2 hs2 ht2).mp g with g | g
        · exact Or.inl g
        · exact Or.inr (Or.inl g)
      · exact Or.inr (Or.inr (of_decide_eq_true g))
    · rintro (g | g | g)
      · exact nt_or_b.mpr (Or.inl ((h1 s2 t2 hs2 ht2).mpr (Or.inl g)))
      · exact nt_or_b.mpr (Or.inl ((h1 s2 t2 hs2 ht2).mpr (Or.inr g)))
      · exact nt_or_b.mpr (Or.inr (decide_eq_true g))
  · rw [ww_st_M ht ht2]
    by_cases e : s2 = s ∧ t2 = t
    · rw [if_pos e]
      obtain ⟨rfl, rfl⟩ := e
      rw [(h2 s2 t2 v hs2 ht2 hv).2 hn]
      have := h1 s2 t2 hs2 (by omega)
      cases hb : nb (L 11 s2) t2
      · have : nb (L1 11 s2) t2 = false := by
          cases hb2 : nb (L1 11 s2) t2
          · rfl
          · rcases this.mp hb2 with z | z
            · rw [hb] at z; cases z
            · exact (hn z).elim
        rw [this]
      · rw [this.mpr (Or.inl hb)]
    · rw [if_neg e]
      exact (h2 s2 t2 v hs2 ht2 hv).1 (((hc s2 t2 hs2 (by omega)).mp g).resolve_right e)
  · rw [ww_st_M ht ht2, if_neg (fun e => g ((hc s2 t2 hs2 (by omega)).mpr (Or.inr e)))]
    exact (h2 s2 t2 v hs2 ht2 hv).2 (fun z => g ((hc s2 t2 hs2 (by omega)).mpr (Or.inl z)))
def ww_c141 : wv_c1 := fun as T N I L R q => ∃ (x : Int64) (k : Nat), as = [.long x, .int (Int32.ofNat k)] ∧ k < 64 ∧ q (.inl (some (.int (wb_i (nb x k))))) T N I L R 0 0
set_option maxRecDepth 100000 in
theorem wM_141 : ∃ cb ci np, pt_mt 141 = some (5, cb, 3, false, some .boolean, ci, np) := ⟨_, _, _, rfl⟩
set_option maxRecDepth 100000 in
set_option maxHeartbeats 4000000 in
theorem ww_isIn {sc : pt_Sc} {d : Nat} : wv_C wm_fx sc (d + 1) 141 ww_c141 := by
  rintro as T N I L R q ⟨x, k, rfl, hk, h⟩ w0 HR
  obtain ⟨cb, ci, np, hm⟩ := wM_141
  refine wv_meth (hh := none) rfl (sp := fun _ _ _ _ _ _ _ _ => False) (hd := fun _ => none) (n := 0) (n1 := 300) hm zc_141 rfl (fun k as T N I L R q h => by cases h) ?_ (fun pc P h => by cases h) HR
  refine ⟨fun h1 => ?_, fun h1 => ?_⟩
  · rw [(nb_c0 hk).mp h1] at h
    exact ⟨⟨rfl, rfl⟩, h⟩
  · rw [(nb_c1 hk).mp h1] at h
    exact ⟨⟨rfl, rfl⟩, h⟩
def ww_c142 : wv_c1 := fun as T N I L R q => ∃ (s t : Nat) (m : Int64), as = [.ref 10, .int (Int32.ofNat s), .int (Int32.ofNat t), .long m] ∧ wm_T T ∧ s < 41 ∧ t < 41 ∧ q (.inl none) T N I (ww_st L s t m) R 0 0
set_option maxRecDepth 100000 in
theorem wM_142 : ∃ cb ci np, pt_mt 142 = some (5, cb, 6, false, none, ci, np) := ⟨_, _, _, rfl⟩
set_option maxRecDepth 100000 in
set_option maxHeartbeats 4000000 in
theorem ww_addStep {sc : pt_Sc} {d : Nat} : wv_C wm_fx sc (d + 1) 142 ww_c142 := by
  rintro as T N I L R q ⟨s, t, m, rfl, hT, hs, ht, h⟩ w0 HR
  obtain ⟨cb, ci, np, hm⟩ := wM_142
  refine wv_meth (hh := none) rfl (sp := fun _ _ _ _ _ _ _ _ => False) (hd := fun _ => none) (n := 0) (n1 := 300) hm zc_142 rfl (fun k as T N I L R q h => by cases h) ?_ (fun pc P h => by cases h) HR
  have es := wi_on (n := s) (by omega)
  have en := wi_onn (n := s) (by omega)
  have e5 := wi_41 s t
  have ei := wi_on (n := s * 41 + t) (by omega)
  have eim := wi_onn (n := s * 41 + t) (by omega)
  have bs : 0 ≤ Int32.ofNat s ∧ (Int32.ofNat s).toInt < (41 : Nat) := ⟨by rw [wi_le, es, wi_0]; omega, by rw [es]; omega⟩
  have b5 : 0 ≤ Int32.ofNat (s * 41 + t) ∧ (Int32.ofNat (s * 41 + t)).toInt < (1681 : Nat) := ⟨by rw [wi_le, ei, wi_0]; omega, by rw [ei]; omega⟩
  unfold ww_st at h
  rw [← e5] at b5 eim
  refine ⟨_, wm_t hT rfl, bs, ?_, ?_⟩
  · rw [en]
    intro h1
    have h1 := (nb_c0 (by omega)).mp h1
    refine ⟨_, wm_t hT rfl, b5, by decide, ?_⟩
    refine ⟨_, wm_t hT rfl, bs, _, wm_t hT rfl, bs, by decide, ?_⟩
    rw [en, eim, wv_u_no _ _ (by omega)]
    rw [if_neg (by rw [h1]; decide)] at h
    exact h
  · rw [en]
    intro h1
    have h2 := (nb_c1 (by omega)).mp h1
    refine ⟨_, wm_t hT rfl, b5, _, wm_t hT rfl, b5, by decide, ?_⟩
    refine ⟨_, wm_t hT rfl, bs, _, wm_t hT rfl, bs, by decide, ?_⟩
    rw [en, eim, wv_u_no _ _ (by omega)]
    rw [if_pos h2] at h
    exact h
