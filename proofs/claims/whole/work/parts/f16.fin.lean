/-! ===== the class: a sequence finished ===== -/
/-- a sequence object holds what was woven -/
def sq_D (T : wv_T) (I : Nat → Nat → Int32) (L : Nat → Nat → Int64) (R : Nat → Nat → Option Nat) (Q : Nat) (A : nt_A) (w g : Nat) : Prop := T Q = some (.inl 8) ∧ I Q 1 = Int32.ofNat (nt_n A + 1) ∧ I Q 2 = Int32.ofNat w ∧ I Q 3 = Int32.ofNat g ∧ g < 64 ∧ nt_n A ≤ 40 ∧ (∀ t, t < 64 → (nb (L Q 4) t = true ↔ nz_F A t)) ∧ (∀ t, t < 64 → (nb (L Q 5) t = true ↔ t < nt_n A + 1 ∧ nz_l A t)) ∧
  ∃ B len, R Q 0 = some B ∧ T B = some (.inr (1, len)) ∧ (nt_n A + 1) * 64 ≤ len ∧ ∀ s v t, s < nt_n A + 1 → v < 64 → v &&& g = v → t < 64 → (nb (L B (s * 64 + v)) t = true ↔ nz_D A s t (some v) ∧ nz_l A t)
/-- the rows of the weaver, with those from the start on -/
def sq_rw (L : Nat → Nat → Int64) (A : nt_A) : Prop := (∀ s t, s < nt_n A + 1 → t < 64 → (nb (L 11 s) t = true ↔ nz_D A s t none)) ∧ ∀ s t v, s < nt_n A + 1 → t < 41 → v < 64 → nz_D A s t none → (nb (L 12 (s * 41 + t)) v = true ↔ nz_D A s t (some v))
theorem sq_lead {L : Nat → Nat → Int64} {A : nt_A} {a : Int64} (hn : nt_n A ≤ 40) (hr : sq_rw L A) (ha : ∀ t, t < 64 → (nb a t = true ↔ nz_F A t)) (t : Nat) (ht : t < 64) : nb (ld_k (L 11) (nt_n A + 1) a (nt_n A + 1)) t = true ↔ t < nt_n A + 1 ∧ nz_l A t := by
  have hF : ∀ t, nz_F A t → t < nt_n A + 1 := by
    rintro t (⟨h, _⟩ | ⟨x, h, h2⟩)
    · omega
    · have := h2.1
      omega
  constructor
  · refine ld_k_P (P := fun t => t < nt_n A + 1 ∧ nz_l A t) (by omega) (fun t s h1 h2 h3 h4 => ⟨h1, ?_⟩) (fun t h1 h2 => ?_) (nt_n A + 1) t ht
    · exact nz_l_back ((hr.1 t s h1 h2).mp h3) h4.2
    · have := (ha t h1).mp h2
      exact ⟨hF t this, nz_l_F this⟩
  · rintro ⟨h1, m, u, h2, h3⟩
    have st := ld_stable (rw0 := L 11) (n := nt_n A + 1) (x := a) (by omega)
    have st : ld_i (L 11) (ld_k (L 11) (nt_n A + 1) a (nt_n A + 1)) (nt_n A + 1) = ld_k (L 11) (nt_n A + 1) a (nt_n A + 1) := st
    have acc : ∀ k t, nb a t = true → nb (ld_k (L 11) (nt_n A + 1) a k) t = true := by
      intro k
      induction k with
      | zero => exact fun _ h => h
      | succ k ih => exact fun t h => ld_i_mono _ (ih t h)
    have key : ∀ m k t, t < nt_n A + 1 → na_p (nz_D A) (fun _ => none) m k t u → nb (ld_k (L 11) (nt_n A + 1) a (nt_n A + 1)) t = true := by
      intro m
      induction m with
      | zero =>
        intro k t h1 h
        have h : t = u := h
        subst h
        exact acc _ _ ((ha t (by omega)).mpr h3)
      | succ m ih =>
        rintro k t h1 ⟨v, g1, g2⟩
        have hv := (nz_D_b g1).2
        have := ih (k + 1) v hv g2
        rw [← st]
        refine ld_i_at _ h1 (by omega) (nb_nz.mpr ⟨v, by omega, ?_⟩)
        rw [nb_and, nt_and_b]
        exact ⟨(hr.1 t v h1 (by omega)).mpr g1, this⟩
    exact key m 0 t h1 h2
/-- the start's steps -/
theorem sq_rw_of {I : Nat → Nat → Int32} {L L1 : Nat → Nat → Int64} {A : nt_A} (hP : ww_P I L 0 1 A) (hn : nt_n A ≤ 40) (hs : ww_stp (wv_u L 11 0 0) L1 (fun s t => s = 0 ∧ 1 ≤ t ∧ t ≤ nt_n A ∧ nb (L 16 0) t = true) (fun _ t => L 13 t)) : sq_rw L1 A := by
  obtain ⟨p1, p2, p3, p4, p5, p6, p7, p8⟩ := hP
  have h0 : ∀ t, t < 64 → ((1 ≤ t ∧ t ≤ nt_n A ∧ nb (L 16 0) t = true) ↔ nz_D A 0 t none) := by
    intro t ht
    constructor
    · rintro ⟨h1, h2, h3⟩
      obtain ⟨y, y1, y2, y3⟩ := (p6 t ht).mp h3
      exact ⟨y, by omega, Or.inl ⟨rfl, y1, y3, trivial⟩⟩
    · rintro ⟨y, y1, ⟨_, y2, y3, _⟩ | ⟨x, x1, _⟩⟩
      · exact ⟨by omega, by omega, (p6 t ht).mpr ⟨y, y2, by omega, y3⟩⟩
      · omega
  have hS : ∀ s t, s < nt_n A → t < 64 → (nb (L 11 (1 + s)) t = true ↔ nz_D A (s + 1) t none) := by
    intro s t h1 h2
    rw [p3 s t h1 h2]
    constructor
    · rintro ⟨y, y1, y2, y3⟩
      exact ⟨y, by omega, Or.inr ⟨s, rfl, h1, y1, y3, trivial⟩⟩
    · rintro ⟨y, y1, ⟨z, _⟩ | ⟨x, x1, x2, x3, x4, _⟩⟩
      · omega
      · have : x = s := by omega
        subst this
        exact ⟨y, x3, by omega, x4⟩
  constructor
  · intro s t h1 h2
    rw [hs.1 s t (by omega) h2]
    by_cases e : s = 0
    · subst e
      rw [wv_u_at, nb_0, ← h0 t h2]
      exact ⟨fun z => z.elim (fun z => (by cases z)) (fun z => z.2), fun z => Or.inr ⟨rfl, z⟩⟩
    · rw [wv_u_no _ _ (by omega)]
      have := hS (s - 1) t (by omega) h2
      rw [show 1 + (s - 1) = s by omega, show s - 1 + 1 = s by omega] at this
      rw [this]
      exact ⟨fun z => z.elim id (fun z => (e z.1).elim), Or.inl⟩
  · intro s t v h1 h2 h3 hD
    by_cases e : s = 0
    · subst e
      have hc := (h0 t (by omega)).mpr hD
      rw [(hs.2.1 0 t v (by omega) h2 h3).1 ⟨rfl, hc⟩, wv_u_at, nb_0]
      show (false || nb (L 13 t) v) = true ↔ _
      rw [Bool.false_or]
      obtain ⟨y, y1, ⟨_, y2, y3, _⟩ | ⟨x, x1, _⟩⟩ := hD
      · subst y1
        rw [show y + 1 = 1 + y by omega, p5 y v y2 h3]
        constructor
        · intro z
          exact ⟨y, by omega, Or.inl ⟨rfl, y2, y3, z⟩⟩
        · rintro ⟨y', e1, ⟨_, _, _, z⟩ | ⟨x, x1, _⟩⟩
          · have : y' = y := by omega
            subst this
            exact z
          · omega
      · omega
    · rw [(hs.2.1 s t v (by omega) h2 h3).2 (fun z => e z.1), wv_u_no _ _ (by omega)]
      obtain ⟨y, y1, ⟨z, _⟩ | ⟨x, x1, x2, x3, x4, _⟩⟩ := hD
      · exact (e z).elim
      · subst x1 y1
        rw [show x + 1 = 1 + x by omega, show y + 1 = 1 + y by omega, p4 x y v x2 x3 x4 h3]
        constructor
        · intro z
          exact ⟨y, by omega, Or.inr ⟨x, by omega, x2, x3, x4, z⟩⟩
        · rintro ⟨y', e1, ⟨z, _⟩ | ⟨x', x1', _, _, _, z⟩⟩
          · omega
          · have e2 : y' = y := by omega
            have e3 : x' = x := by omega
            subst e2 e3
            exact z
theorem sq_acc {I : Nat → Nat → Int32} {L : Nat → Nat → Int64} {A : nt_A} {z : Int64} (hP : ww_P I L 0 1 A) (hz : ∀ t, t < 64 → (nb z t = true ↔ t = 0 ∧ nt_e A = true)) (t : Nat) (ht : t < 64) : nb (L 17 0 ||| z) t = true ↔ nz_F A t := by
  obtain ⟨p1, p2, p3, p4, p5, p6, p7, p8⟩ := hP
  rw [nb_or, nt_or_b, p7 t ht, hz t ht]
  constructor
  · rintro (⟨y, y1, y2, y3⟩ | h)
    · exact Or.inr ⟨y, by omega, y1, y3⟩
    · exact Or.inl h
  · rintro (h | ⟨y, y1, y2, y3⟩)
    · exact Or.inr h
    · exact Or.inl ⟨y, y2, by omega, y3⟩
/-- what finishing leaves alone; a new array may be made -/
def sq_G (Q B : Nat) (T : wv_T) (N : Nat) (I : Nat → Nat → Int32) (L : Nat → Nat → Int64) (R : Nat → Nat → Option Nat) (T1 : wv_T) (N1 : Nat) (I1 : Nat → Nat → Int32) (L1 : Nat → Nat → Int64) (R1 : Nat → Nat → Option Nat) (nc ns : Nat) : Prop :=
  (∀ c j, ¬ T c = none → ¬ (c = Q ∧ 1 ≤ j ∧ j ≤ 3) → I1 c j = I c j) ∧ (∀ c j, ¬ T c = none → ¬ (c = Q ∧ (j = 4 ∨ j = 5)) → ¬ (c = 11 ∨ c = 12) → ¬ c = B → L1 c j = L c j) ∧
  ((T1 = T ∧ N1 = N ∧ R1 = R ∧ nc = 0 ∧ ns = 0) ∨ ∃ len, T N = none ∧ len ≤ 2624 ∧ T1 = wv_n T N (.inr (1, len)) ∧ N1 = N + 1 ∧ R1 = wv_u (wv_z R N none) Q 0 (some N) ∧ nc = 1 ∧ ns = len)
def sq_h162 (Q B len w g : Nat) (A : nt_A) (q : wv_Q) (T : wv_T) (N : Nat) (I : Nat → Nat → Int32) (L : Nat → Nat → Int64) (R : Nat → Nat → Option Nat) : Nat → Option (Nat → wv_P) := fun pc =>
  if pc = 25 then some (fun mm lv st T1 N1 I1 L1 R1 nc ns => ∃ k : Nat, lv = [some (.ref 10), some (.ref Q), some (.int (Int32.ofNat g)), some (.int (Int32.ofNat (k + 1))), none, none, none, none, none, none] ∧ st = [] ∧ T1 = T ∧ N1 = N ∧ I1 = I ∧ R1 = R ∧ nc = 0 ∧ ns = 0 ∧ k ≤ nt_n A ∧ mm = 30000 - k ∧ ww_stp (wv_u L 11 0 0) L1 (fun s t => s = 0 ∧ 1 ≤ t ∧ t ≤ k ∧ nb (L 16 0) t = true) (fun _ t => L 13 t))
  else if pc = 86 then some (fun mm lv st T1 N1 I1 L1 R1 nc ns => ∃ a : Int64, lv = [some (.ref 10), some (.ref Q), some (.int (Int32.ofNat g)), some (.long a), none, none, none, none, none, none] ∧ st = [] ∧ T1 = T ∧ N1 = N ∧ I1 = I ∧ R1 = R ∧ nc = 0 ∧ ns = 0 ∧ mm = 20000 ∧ (∀ t, t < 64 → (nb a t = true ↔ nz_F A t)) ∧ sq_rw L1 A ∧ ∀ c j, ¬ (c = 11 ∨ c = 12) → L1 c j = L c j)
  else if pc = 112 then some (fun mm lv st T1 N1 I1 L1 R1 nc ns => ∃ (k : Nat) (a : Int64) (x : Option Value) (B2 len2 : Nat), lv = [some (.ref 10), some (.ref Q), some (.int (Int32.ofNat g)), some (.long a), none, some (.int (Int32.ofNat k)), x, none, none, none] ∧ st = [] ∧ k ≤ nt_n A + 1 ∧ mm = 100 * (nt_n A + 1 - k) ∧ wm_T T1 ∧ T1 Q = some (.inl 8) ∧ I1 10 9 = Int32.ofNat (nt_n A) ∧ I1 Q 3 = Int32.ofNat g ∧ R1 Q 0 = some B2 ∧ T1 B2 = some (.inr (1, len2)) ∧ (nt_n A + 1) * 64 ≤ len2 ∧ len2 ≤ 2624 ∧ B2 < 1099511627776 ∧ 18 < B2 ∧ ¬ B2 = Q ∧ sq_rw L1 A ∧ (∀ t, t < 64 → (nb (L1 Q 5) t = true ↔ t < nt_n A + 1 ∧ nz_l A t)) ∧ (∀ s v t, s < nt_n A + 1 → v < 64 → v &&& g = v → t < 64 → (nb (L1 B2 (s * 64 + v)) t = true ↔ s < k ∧ nz_D A s t (some v) ∧ nz_l A t)) ∧
    ∀ L2, (∀ c j, ¬ c = B2 → L2 c j = L1 c j) → (∀ s v t, s < nt_n A + 1 → v < 64 → v &&& g = v → t < 64 → (nb (L2 B2 (s * 64 + v)) t = true ↔ nz_D A s t (some v) ∧ nz_l A t)) → q (.inl none) T1 N1 I1 L2 R1 nc ns)
  else if pc = 124 then some (fun mm lv st T1 N1 I1 L1 R1 nc ns => ∃ (k e : Nat) (a : Int64) (B2 len2 : Nat), lv = [some (.ref 10), some (.ref Q), some (.int (Int32.ofNat g)), some (.long a), none, some (.int (Int32.ofNat k)), some (.int (Int32.ofNat (e + 1))), none, none, none] ∧ st = [] ∧ k ≤ nt_n A ∧ e ≤ nt_n A ∧ mm = 100 * (nt_n A + 1 - k) - 1 - e ∧ wm_T T1 ∧ T1 Q = some (.inl 8) ∧ I1 10 9 = Int32.ofNat (nt_n A) ∧ I1 Q 3 = Int32.ofNat g ∧ R1 Q 0 = some B2 ∧ T1 B2 = some (.inr (1, len2)) ∧ (nt_n A + 1) * 64 ≤ len2 ∧ len2 ≤ 2624 ∧ B2 < 1099511627776 ∧ 18 < B2 ∧ ¬ B2 = Q ∧ sq_rw L1 A ∧ (∀ t, t < 64 → (nb (L1 Q 5) t = true ↔ t < nt_n A + 1 ∧ nz_l A t)) ∧ (∀ s v t, s < nt_n A + 1 → v < 64 → v &&& g = v → t < 64 → (nb (L1 B2 (s * 64 + v)) t = true ↔ (s < k ∨ (s = k ∧ t ≤ e)) ∧ nz_D A s t (some v) ∧ nz_l A t)) ∧
    ∀ L2, (∀ c j, ¬ c = B2 → L2 c j = L1 c j) → (∀ s v t, s < nt_n A + 1 → v < 64 → v &&& g = v → t < 64 → (nb (L2 B2 (s * 64 + v)) t = true ↔ nz_D A s t (some v) ∧ nz_l A t)) → q (.inl none) T1 N1 I1 L2 R1 nc ns)
  else none
def sq_c162 : wv_c1 := fun as T N I L R q => ∃ (Q B len w g : Nat) (A : nt_A), as = [.ref 10, .ref Q, .int (Int32.ofNat g)] ∧ wm_T T ∧ ww_W false I L [(w, A)] ∧ T Q = some (.inl 8) ∧ 18 < Q ∧ Q < 1099511627776 ∧ R Q 0 = some B ∧ T B = some (.inr (1, len)) ∧ len ≤ 2624 ∧ (0 < len → B < 1099511627776 ∧ 18 < B ∧ ¬ B = Q) ∧ N < 1000000000 ∧ 18 < N ∧ g < 64 ∧ ∀ T1 N1 I1 L1 R1 nc ns, sq_G Q B T N I L R T1 N1 I1 L1 R1 nc ns → sq_D T1 I1 L1 R1 Q A w g → q (.inl none) T1 N1 I1 L1 R1 nc ns
set_option maxRecDepth 100000 in
theorem wM_162 : ∃ cb ci np, pt_mt 162 = some (5, cb, 7, false, none, ci, np) := ⟨_, _, _, rfl⟩
set_option maxRecDepth 100000 in
set_option maxHeartbeats 4000000 in
theorem sq_finish {sc : pt_Sc} {d : Nat} : wv_C wm_fx sc (d + 1 + 1 + 1 + 1) 162 sq_c162 := by
  rintro as T N I L R q ⟨Q, B, len, w, g, A, rfl, hT, hW, hQ, hQ18, hQ2, hB, hTB, hlen, hB2, hN, hN18, hg, h⟩ w0 HR
  obtain ⟨cb, ci, np, hm⟩ := wM_162
  have hc141 : wv_C wm_fx sc (d + 1 + 1 + 1) 141 ww_c141 := wv_C_deep (by omega) (ww_isIn (d := d))
  have hc142 : wv_C wm_fx sc (d + 1 + 1 + 1) 142 ww_c142 := wv_C_deep (by omega) (ww_addStep (d := d))
  have hc163 : wv_C wm_fx sc (d + 1 + 1 + 1) 163 ww_c163 := wv_C_deep (by omega) (ww_leadingTo (d := d))
  have hc164 : wv_C wm_fx sc (d + 1 + 1 + 1) 164 ww_c164 := wv_C_deep (by omega) (sq_set (d := d))
  have hc166 : wv_C wm_fx sc (d + 1 + 1 + 1) 166 ww_c166 := wv_C_deep (by omega) (sq_addStep (d := d))
  refine wv_meth (hh := none) rfl (sp := wv_sp [(141, ww_c141), (142, ww_c142), (163, ww_c163), (164, ww_c164), (166, ww_c166)]) (hd := sq_h162 Q B len w g A q T N I L R) (n := 300) (n1 := 300) hm zc_162 rfl (wv_sp_ok (fun q hq => by
    rcases List.mem_cons.mp hq with h | h
    · rw [h]; exact hc141
    rcases List.mem_cons.mp h with h | h
    · rw [h]; exact hc142
    rcases List.mem_cons.mp h with h | h
    · rw [h]; exact hc163
    rcases List.mem_cons.mp h with h | h
    · rw [h]; exact hc164
    rw [List.mem_singleton.mp h]; exact hc166)) ?_ ?_ HR
  · obtain ⟨w1, w2, w3, w4, w5⟩ := id hW
    obtain ⟨v1, v2, v4, v5⟩ := w5 rfl
    have esz : ww_sz [(w, A)] = nt_n A := rfl
    refine ⟨fun h1 => ?_, fun h1 => ?_⟩
    · exact absurd (w3 : I 10 10 = wb_i false) h1
    · refine ⟨fun h2 => ?_, fun h2 => ?_⟩
      · refine ⟨_, wm_t hT rfl, by decide, by decide, ?_⟩
        refine ⟨30000 - 0, 0, rfl, rfl, rfl, rfl, rfl, rfl, rfl, rfl, Nat.zero_le _, rfl, ?_⟩
        exact ww_stp_0 _ _ (fun s t _ _ z => by omega)
      · exact absurd (w1 : I 10 8 = Int32.ofNat 1) h2
  · intro pc P hP m lv st T1 N1 I1 L1 R1 nc ns hh
    obtain ⟨w1, w2, w3, w4, w5⟩ := id hW
    obtain ⟨v1, v2, v4, v5⟩ := w5 rfl
    have esz : ww_sz [(w, A)] = nt_n A := rfl
    rw [esz] at v1 v2
    have hP0 : ww_P I L 0 1 A := v4
    have eu := wi_on (n := nt_n A) (by omega)
    unfold sq_h162 at hP
    by_cases c25 : pc = 25
    · rw [if_pos c25] at hP
      cases hP
      subst c25
      obtain ⟨k, rfl, rfl, rfl, rfl, rfl, rfl, rfl, rfl, hk, hmm, hs⟩ := hh
      have ek := wi_on (n := k + 1) (by omega)
      have ekn := wi_onn (n := k + 1) (by omega)
      have e16 : ∀ j, L1 16 j = L 16 j := fun j => by rw [hs.2.2 _ _ (by decide) (by decide), wv_u_no _ _ (by omega)]
      have e13 : ∀ j, L1 13 j = L 13 j := fun j => by rw [hs.2.2 _ _ (by decide) (by decide), wv_u_no _ _ (by omega)]
      have e17 : ∀ j, L1 17 j = L 17 j := fun j => by rw [hs.2.2 _ _ (by decide) (by decide), wv_u_no _ _ (by omega)]
      refine ⟨fun h1 => ?_, fun h1 => ?_⟩
      · have e : k = nt_n A := by rw [v1, wi_lt, ek, eu] at h1; omega
        subst e
        have hrw := sq_rw_of hP0 v2 hs
        have hfr : ∀ c j, ¬ (c = 11 ∨ c = 12) → L1 c j = L c j := fun c j hc => by rw [hs.2.2 c j (by omega) (by omega), wv_u_no _ _ (by omega)]
        refine ⟨_, wm_t hT rfl, by decide, 2, _, Or.inl rfl, wm_t hT rfl, by decide, ?_, ?_⟩
        · intro h2
          have h2 := wb_i_0.mp (hP0.2.2.2.2.2.2.2.symm.trans h2)
          refine ⟨20000, by omega, L 17 0 ||| Int64.ofNat 0, by rw [← e17]; rfl, rfl, rfl, rfl, rfl, rfl, rfl, rfl, rfl, sq_acc hP0 (fun t _ => ⟨fun z => (nb_00 z).elim, fun z => by rw [h2] at z; cases z.2⟩), hrw, hfr⟩
        · intro h2
          have h2 := wb_i_1.mp (fun z => h2 (hP0.2.2.2.2.2.2.2.trans z))
          refine ⟨20000, by omega, L 17 0 ||| Int64.ofNat 1, by rw [← e17]; rfl, rfl, rfl, rfl, rfl, rfl, rfl, rfl, rfl, sq_acc hP0 (fun t _ => by rw [nb_1]; exact ⟨fun z => ⟨of_decide_eq_true z, h2⟩, fun z => decide_eq_true z.1⟩), hrw, hfr⟩
      · have hlt : k < nt_n A := by rw [v1, wi_lt, ek, eu] at h1; omega
        refine ⟨_, wm_t hT rfl, by decide, ?_⟩
        have e160 : L1 16 (Int32.ofInt 0).toNatClampNeg = L 16 0 := e16 0
        rw [e160]
        refine ⟨L 16 0, k + 1, rfl, by omega, ?_⟩
        refine ⟨fun h2 => ?_, fun h2 => ?_⟩
        · have hb := wb_i_0.mp h2
          refine ⟨30000 - (k + 1), by omega, k + 1, by rw [← wq_4s (k + 1)]; rfl, rfl, rfl, rfl, rfl, rfl, rfl, rfl, by omega, rfl, ww_stp_c hs (fun s t _ _ => ⟨fun z => ⟨z.1, z.2.1, ?_, z.2.2.2⟩, fun z => ⟨z.1, z.2.1, by omega, z.2.2.2⟩⟩) (fun _ _ _ _ _ => rfl)⟩
          by_cases e : t = k + 1
          · have := z.2.2.2
            rw [e, hb] at this
            cases this
          · omega
        · have hb := wb_i_1.mp h2
          refine ⟨_, wm_t hT rfl, by rw [wi_le, ek, wi_0]; omega, ?_⟩
          rw [ekn]
          refine ⟨0, k + 1, _, rfl, hT, by omega, by omega, ?_⟩
          refine ⟨30000 - (k + 1), by omega, k + 1, by rw [← wq_4s (k + 1)]; rfl, rfl, rfl, rfl, rfl, rfl, rfl, rfl, by omega, rfl, ?_⟩
          refine ww_stp_1 hs (by omega) (by omega) (fun z => by omega) (e13 _) (fun s t _ _ => ⟨fun z => ?_, fun z => ?_⟩)
          · by_cases e : t = k + 1
            · exact Or.inr ⟨z.1, e⟩
            · exact Or.inl ⟨z.1, z.2.1, by omega, z.2.2.2⟩
          · rcases z with z | ⟨rfl, rfl⟩
            · exact ⟨z.1, z.2.1, by omega, z.2.2.2⟩
            · exact ⟨rfl, by omega, by omega, hb⟩
    rw [if_neg c25] at hP
    by_cases c86 : pc = 86
    · rw [if_pos c86] at hP
      cases hP
      subst c86
      obtain ⟨a, rfl, rfl, rfl, rfl, rfl, rfl, rfl, rfl, hmm, ha, hrw, hfr⟩ := hh
      have hld := sq_lead v2 hrw ha
      obtain ⟨ld, hldx⟩ : ∃ x, ld_k (L1 11) (nt_n A + 1) a (nt_n A + 1) = x := ⟨_, rfl⟩
      rw [hldx] at hld
      have hW14 : I1 14 0 = Int32.ofNat w := w4.1.1
      refine ⟨_, wm_t hT rfl, by decide, ?_⟩
      have e14 : I1 14 (Int32.ofInt 0).toNatClampNeg = Int32.ofNat w := hW14
      rw [e14]
      refine ⟨nt_n A, a, rfl, hT, v1, v2, ?_⟩
      rw [hldx, v1]
      have e9 : Int32.ofNat (nt_n A) + Int32.ofInt 1 = Int32.ofNat (nt_n A + 1) := wq_4s _
      have eqQ : ∀ x, T1 Q = some x → x = .inl 8 := fun x hx => by rw [hQ] at hx; exact (Option.some.inj hx).symm
      refine ⟨hQ, Q, B, len, nt_n A + 1, Int32.ofNat w, Int32.ofNat g, a, ld, by rw [← e9]; rfl, hQ, hQ2, hB, hTB, hlen, fun z => (hB2 z).1, by omega, by omega, hN, fun hfit L2 k1 k2 => ?_, fun hfit hNn => ?_⟩
      · -- it fits
        obtain ⟨b1, b2, b3⟩ := hB2 (by omega)
        have l2 : ∀ c j, ¬ c = B → ¬ (c = Q ∧ (j = 4 ∨ j = 5)) → L2 c j = L1 c j := fun c j hc hq => by
          rw [k2 c j (fun z => hc z.1)]
          unfold sq_L
          rw [wv_u_no _ _ (by omega), wv_u_no _ _ (by omega)]
        have lq5 : L2 Q 5 = ld := by
          rw [k2 Q 5 (fun z => b3 z.1.symm)]
          unfold sq_L
          exact wv_u_at _ _ _ _
        have lq4 : L2 Q 4 = a := by
          rw [k2 Q 4 (fun z => b3 z.1.symm)]
          unfold sq_L
          rw [wv_u_no _ _ (by omega), wv_u_at]
        have iq : ∀ c j, ¬ (c = Q ∧ 1 ≤ j ∧ j ≤ 3) → sq_I I1 Q (nt_n A + 1) (Int32.ofNat w) (Int32.ofNat g) c j = I1 c j := fun c j hc => by
          unfold sq_I
          rw [wv_u_no _ _ (by omega), wv_u_no _ _ (by omega), wv_u_no _ _ (by omega)]
        have hrw2 : sq_rw L2 A := by
          have e11 : L2 11 = L1 11 := funext (fun j => l2 11 j (by omega) (by omega))
          have e12 : L2 12 = L1 12 := funext (fun j => l2 12 j (by omega) (by omega))
          unfold sq_rw
          rw [e11, e12]
          exact hrw
        have q1 : sq_I I1 Q (nt_n A + 1) (Int32.ofNat w) (Int32.ofNat g) Q 1 = Int32.ofNat (nt_n A + 1) := by unfold sq_I; rw [wv_u_no _ _ (by omega), wv_u_no _ _ (by omega), wv_u_at]
        have q2 : sq_I I1 Q (nt_n A + 1) (Int32.ofNat w) (Int32.ofNat g) Q 2 = Int32.ofNat w := by unfold sq_I; rw [wv_u_no _ _ (by omega), wv_u_at]
        have q3 : sq_I I1 Q (nt_n A + 1) (Int32.ofNat w) (Int32.ofNat g) Q 3 = Int32.ofNat g := by unfold sq_I; rw [wv_u_at]
        refine ⟨100 * (nt_n A + 1 - 0), by omega, 0, a, none, B, len, rfl, rfl, Nat.zero_le _, rfl, hT, hQ, by rw [iq _ _ (by omega)]; exact v1, q3, hB, hTB, hfit, hlen, b1, b2, b3, hrw2, fun t ht => by rw [lq5]; exact hld t ht, fun s v t h1 h2 h3 h4 => ?_, fun L3 m1 m2 => ?_⟩
        · rw [k1 _ (by omega), nb_0]
          exact ⟨fun z => (by cases z), fun z => by omega⟩
        · refine h _ _ _ _ _ _ _ ⟨fun c j _ hc => iq c j hc, fun c j _ hc1 hc2 hc3 => by rw [m1 c j hc3, l2 c j hc3 hc1, hfr c j hc2], Or.inl ⟨rfl, rfl, rfl, rfl, rfl⟩⟩ ⟨hQ, q1, q2, q3, hg, v2, fun t ht => by rw [m1 _ _ (fun z => b3 z.symm), lq4]; exact ha t ht, fun t ht => by rw [m1 _ _ (fun z => b3 z.symm), lq5]; exact hld t ht, B, len, hB, hTB, hfit, m2⟩
      · -- a new array
        have hneQ : ¬ Q = N1 := fun z => by rw [z, hNn] at hQ; cases hQ
        have z2 : ∀ {α : Type} (f : Nat → Nat → α) (x : α) c j, ¬ c = N1 → wv_z f N1 x c j = f c j := fun f x c j hc => if_neg hc
        have l2 : ∀ c j, ¬ c = N1 → ¬ (c = Q ∧ (j = 4 ∨ j = 5)) → wv_z (sq_L L1 Q a ld) N1 0 c j = L1 c j := fun c j hc hq => by
          rw [z2 _ _ _ _ hc]
          unfold sq_L
          rw [wv_u_no _ _ (by omega), wv_u_no _ _ (by omega)]
        have lq5 : wv_z (sq_L L1 Q a ld) N1 0 Q 5 = ld := by
          rw [z2 _ _ _ _ hneQ]
          unfold sq_L
          exact wv_u_at _ _ _ _
        have lq4 : wv_z (sq_L L1 Q a ld) N1 0 Q 4 = a := by
          rw [z2 _ _ _ _ hneQ]
          unfold sq_L
          rw [wv_u_no _ _ (by omega), wv_u_at]
        have iq : ∀ c j, ¬ c = N1 → ¬ (c = Q ∧ 1 ≤ j ∧ j ≤ 3) → wv_z (sq_I I1 Q (nt_n A + 1) (Int32.ofNat w) (Int32.ofNat g)) N1 0 c j = I1 c j := fun c j hn hc => by
          rw [z2 _ _ _ _ hn]
          unfold sq_I
          rw [wv_u_no _ _ (by omega), wv_u_no _ _ (by omega), wv_u_no _ _ (by omega)]
        have q1 : wv_z (sq_I I1 Q (nt_n A + 1) (Int32.ofNat w) (Int32.ofNat g)) N1 0 Q 1 = Int32.ofNat (nt_n A + 1) := by rw [z2 _ _ _ _ hneQ]; unfold sq_I; rw [wv_u_no _ _ (by omega), wv_u_no _ _ (by omega), wv_u_at]
        have q2 : wv_z (sq_I I1 Q (nt_n A + 1) (Int32.ofNat w) (Int32.ofNat g)) N1 0 Q 2 = Int32.ofNat w := by rw [z2 _ _ _ _ hneQ]; unfold sq_I; rw [wv_u_no _ _ (by omega), wv_u_at]
        have q3 : wv_z (sq_I I1 Q (nt_n A + 1) (Int32.ofNat w) (Int32.ofNat g)) N1 0 Q 3 = Int32.ofNat g := by rw [z2 _ _ _ _ hneQ]; unfold sq_I; rw [wv_u_at]
        have tN : ∀ c x, T1 c = some x → wv_n T1 N1 (.inr (1, (nt_n A + 1) * 64)) c = some x := fun c x hx => by
          unfold wv_n
          rw [if_neg (fun z => by rw [z, hNn] at hx; cases hx)]
          exact hx
        have hT2 : wm_T (wv_n T1 N1 (.inr (1, (nt_n A + 1) * 64))) := fun c x hx => tN c _ (hT c x hx)
        have n11 : ¬ 11 = N1 := by omega
        have hrw2 : sq_rw (wv_z (sq_L L1 Q a ld) N1 0) A := by
          have e11 : wv_z (sq_L L1 Q a ld) N1 0 11 = L1 11 := funext (fun j => l2 11 j (by omega) (by omega))
          have e12 : wv_z (sq_L L1 Q a ld) N1 0 12 = L1 12 := funext (fun j => l2 12 j (by omega) (by omega))
          unfold sq_rw
          rw [e11, e12]
          exact hrw
        have nT : wv_n T1 N1 (.inr (1, (nt_n A + 1) * 64)) N1 = some (.inr (1, (nt_n A + 1) * 64)) := if_pos rfl
        refine ⟨100 * (nt_n A + 1 - 0), by omega, 0, a, none, N1, (nt_n A + 1) * 64, rfl, rfl, Nat.zero_le _, rfl, hT2, tN _ _ hQ, by rw [iq _ _ (by omega) (by omega)]; exact v1, q3, wv_u_at _ _ _ _, nT, Nat.le_refl _, by omega, by omega, hN18, fun z => hneQ z.symm, hrw2, fun t ht => by rw [lq5]; exact hld t ht, fun s v t h1 h2 h3 h4 => ?_, fun L3 m1 m2 => ?_⟩
        · rw [show wv_z (sq_L L1 Q a ld) N1 0 N1 (s * 64 + v) = 0 from if_pos rfl, nb_0]
          exact ⟨fun z => (by cases z), fun z => by omega⟩
        · refine h _ _ _ _ _ _ _ ⟨fun c j hn hc => iq c j (fun z => hn (by rw [z]; exact hNn)) hc, fun c j hn hc1 hc2 hc3 => by rw [m1 c j (fun z => hn (by rw [z]; exact hNn)), l2 c j (fun z => hn (by rw [z]; exact hNn)) hc1, hfr c j hc2], Or.inr ⟨(nt_n A + 1) * 64, hNn, by omega, rfl, rfl, rfl, by omega, by omega⟩⟩ ⟨tN _ _ hQ, q1, q2, q3, hg, v2, fun t ht => by rw [m1 _ _ hneQ, lq4]; exact ha t ht, fun t ht => by rw [m1 _ _ hneQ, lq5]; exact hld t ht, N1, (nt_n A + 1) * 64, wv_u_at _ _ _ _, nT, Nat.le_refl _, m2⟩
    rw [if_neg c86] at hP
    by_cases c112 : pc = 112
    · rw [if_pos c112] at hP
      cases hP
      subst c112
      obtain ⟨k, a, x, B2, len2, rfl, rfl, hk, hmm, hT2, hQT, h9, hg3, hR0, hTB2, hfit, hl2, hb2, hb18, hbQ, hrw, h5, hbits, fin⟩ := hh
      have ek := wi_on (n := k) (by omega)
      refine ⟨fun h1 => ?_, fun h1 => ?_⟩
      · have e : k = nt_n A + 1 := by rw [h9, wi_lt, ek, eu] at h1; omega
        subst e
        exact fin L1 (fun _ _ _ => rfl) (fun s v t a1 a2 a3 a4 => by rw [hbits s v t a1 a2 a3 a4]; exact ⟨fun z => z.2, fun z => ⟨a1, z⟩⟩)
      · have hlt : k ≤ nt_n A := by rw [h9, wi_lt, ek, eu] at h1; omega
        refine ⟨100 * (nt_n A + 1 - k) - 1 - 0, by omega, k, 0, a, B2, len2, rfl, rfl, hlt, Nat.zero_le _, rfl, hT2, hQT, h9, hg3, hR0, hTB2, hfit, hl2, hb2, hb18, hbQ, hrw, h5, fun s v t a1 a2 a3 a4 => ?_, fin⟩
        rw [hbits s v t a1 a2 a3 a4]
        constructor
        · rintro ⟨z1, z2⟩
          exact ⟨Or.inl z1, z2⟩
        · rintro ⟨z1 | ⟨z1, z3⟩, z2⟩
          · exact ⟨z1, z2⟩
          · obtain ⟨y, y1, _⟩ := z2.1
            omega
    rw [if_neg c112] at hP
    by_cases c124 : pc = 124
    · rw [if_pos c124] at hP
      cases hP
      subst c124
      obtain ⟨k, e, a, B2, len2, rfl, rfl, hk, he, hmm, hT2, hQT, h9, hg3, hR0, hTB2, hfit, hl2, hb2, hb18, hbQ, hrw, h5, hbits, fin⟩ := hh
      have ek := wi_on (n := k) (by omega)
      have ekn := wi_onn (n := k) (by omega)
      have ee := wi_on (n := e + 1) (by omega)
      refine ⟨fun h1 => ?_, fun h1 => ?_⟩
      · have e2 : e = nt_n A := by rw [h9, wi_lt, ee, eu] at h1; omega
        subst e2
        refine ⟨100 * (nt_n A + 1 - (k + 1)), by omega, k + 1, a, _, B2, len2, by rw [← wq_4s k]; rfl, rfl, by omega, rfl, hT2, hQT, h9, hg3, hR0, hTB2, hfit, hl2, hb2, hb18, hbQ, hrw, h5, fun s v t a1 a2 a3 a4 => ?_, fin⟩
        rw [hbits s v t a1 a2 a3 a4]
        constructor
        · rintro ⟨z1, z2⟩
          exact ⟨by omega, z2⟩
        · rintro ⟨z1, z2⟩
          have := (nz_D_b z2.1).2
          exact ⟨by omega, z2⟩
      · have hlt : e < nt_n A := by rw [h9, wi_lt, ee, eu] at h1; omega
        refine ⟨_, wm_t hT2 rfl, by rw [wi_le, ek, wi_0]; omega, ?_⟩
        rw [ekn]
        refine ⟨_, e + 1, rfl, by omega, ?_⟩
        have skip : (∀ v, v < 64 → v &&& g = v → ¬ (nz_D A k (e + 1) (some v) ∧ nz_l A (e + 1))) → ∀ s v t, s < nt_n A + 1 → v < 64 → v &&& g = v → t < 64 → (nb (L1 B2 (s * 64 + v)) t = true ↔ (s < k ∨ (s = k ∧ t ≤ e + 1)) ∧ nz_D A s t (some v) ∧ nz_l A t) := by
          intro hno s v t a1 a2 a3 a4
          rw [hbits s v t a1 a2 a3 a4]
          constructor
          · rintro ⟨z1, z2⟩
            exact ⟨by omega, z2⟩
          · rintro ⟨z1, z2⟩
            refine ⟨?_, z2⟩
            by_cases c : s = k ∧ t = e + 1
            · rw [c.1, c.2] at z2
              exact (hno v a2 a3 z2).elim
            · omega
        refine ⟨fun h2 => ?_, fun h2 => ?_⟩
        · have hb := wb_i_0.mp h2
          refine ⟨100 * (nt_n A + 1 - k) - 1 - (e + 1), by omega, k, e + 1, a, B2, len2, by rw [← wq_4s (e + 1)]; rfl, rfl, hk, by omega, rfl, hT2, hQT, h9, hg3, hR0, hTB2, hfit, hl2, hb2, hb18, hbQ, hrw, h5, skip (fun v _ _ z => ?_), fin⟩
          have := (hrw.1 k (e + 1) (by omega) (by omega)).mpr (nz_none z.1)
          rw [hb] at this
          cases this
        · have hb := wb_i_1.mp h2
          have hDn := (hrw.1 k (e + 1) (by omega) (by omega)).mp hb
          have e5 := wi_41 k (e + 1)
          have ei := wi_on (n := k * 41 + (e + 1)) (by omega)
          have eim := wi_onn (n := k * 41 + (e + 1)) (by omega)
          refine ⟨_, wm_t hT2 rfl, by rw [e5, wi_le, ei, wi_0]; omega, ?_⟩
          rw [e5, eim]
          refine ⟨hQT, Q, B2, len2, k, e + 1, g, _, rfl, hQT, hR0, hTB2, hb2, by omega, by omega, by omega, hg3, hg, fun hl => ?_, fun hl L2 hs => ?_⟩
          · refine ⟨100 * (nt_n A + 1 - k) - 1 - (e + 1), by omega, k, e + 1, a, B2, len2, by rw [← wq_4s (e + 1)]; rfl, rfl, hk, by omega, rfl, hT2, hQT, h9, hg3, hR0, hTB2, hfit, hl2, hb2, hb18, hbQ, hrw, h5, skip (fun v _ _ z => ?_), fin⟩
            have := (h5 (e + 1) (by omega)).mpr ⟨by omega, z.2⟩
            rw [hl] at this
            cases this
          · have hlead := (h5 (e + 1) (by omega)).mp hl
            have fr : ∀ c j, ¬ c = B2 → L2 c j = L1 c j := fun c j hc => hs.2 c j (fun z => hc z.1)
            have e11 : L2 11 = L1 11 := funext (fun j => fr 11 j (by omega))
            have e12 : L2 12 = L1 12 := funext (fun j => fr 12 j (by omega))
            refine ⟨100 * (nt_n A + 1 - k) - 1 - (e + 1), by omega, k, e + 1, a, B2, len2, by rw [← wq_4s (e + 1)]; rfl, rfl, hk, by omega, rfl, hT2, hQT, h9, hg3, hR0, hTB2, hfit, hl2, hb2, hb18, hbQ, by unfold sq_rw; rw [e11, e12]; exact hrw, fun t ht => by rw [fr _ _ (fun z => hbQ z.symm)]; exact h5 t ht, fun s v t a1 a2 a3 a4 => ?_, fun L3 m1 m2 => fin L3 (fun c j hc => by rw [m1 c j hc, fr c j hc]) m2⟩
            by_cases c : s = k
            · subst c
              rw [hs.1 v a2 a3 t a4, hbits s v t a1 a2 a3 a4]
              have hm := hrw.2 s (e + 1) v a1 (by omega) a2 hDn
              constructor
              · rintro (⟨z1, z2⟩ | ⟨_, z1, z2⟩)
                · exact ⟨by omega, z2⟩
                · subst z1
                  exact ⟨Or.inr ⟨rfl, Nat.le_refl _⟩, hm.mp z2, hlead.2⟩
              · rintro ⟨z1, z2⟩
                by_cases ct : t = e + 1
                · subst ct
                  exact Or.inr ⟨trivial, rfl, hm.mpr z2.1⟩
                · exact Or.inl ⟨by omega, z2⟩
            · rw [hs.2 B2 (s * 64 + v) (fun ⟨_, v2, b1, _, b3⟩ => c (by omega)), hbits s v t a1 a2 a3 a4]
              exact ⟨fun z => ⟨by omega, z.2⟩, fun z => ⟨by omega, z.2⟩⟩
    rw [if_neg c124] at hP
    cases hP
