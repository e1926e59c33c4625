/-! ===== the class: a sequence as it is walked ===== -/
/-- the letters that have no signals but these, in order -/
def sb_l (g : Nat) : List Nat := (List.range 64).filter (fun v => decide (v &&& g = v))
def sb_c (g : Nat) : Nat := g % 2 + g / 2 % 2 + g / 4 % 2 + g / 8 % 2 + g / 16 % 2 + g / 32 % 2
def sb_n (g v : Nat) : Nat := (v + 64 - g) % 64 &&& g
def sb_v (g k : Nat) : Nat := ((sb_l g)[k]?).getD 0
set_option maxRecDepth 100000 in
theorem sb_facts : ∀ g : Fin 64, (sb_l g.1).length = 2 ^ sb_c g.1 ∧ sb_v g.1 0 = 0 ∧ ∀ k : Fin 64, k.1 + 1 < 2 ^ sb_c g.1 → sb_n g.1 (sb_v g.1 k.1) = sb_v g.1 (k.1 + 1) := by decide +kernel
set_option maxRecDepth 100000 in
theorem sb_int : ∀ g v : Fin 64, ((Int32.ofNat v.1 - Int32.ofNat g.1) &&& Int32.ofNat g.1) = Int32.ofNat (sb_n g.1 v.1) := by decide +kernel
set_option maxRecDepth 100000 in
theorem sb_shl : ∀ g : Fin 64, (Int32.ofInt 1 <<< (Int32.ofNat (sb_c g.1) &&& 31)) = Int32.ofNat (2 ^ sb_c g.1) ∧ 2 ^ sb_c g.1 ≤ 64 ∧ 1 ≤ 2 ^ sb_c g.1 := by decide +kernel
theorem sb_len {g : Nat} (hg : g < 64) : (sb_l g).length = 2 ^ sb_c g := (sb_facts ⟨g, hg⟩).1
theorem sb_v0 {g : Nat} (hg : g < 64) : sb_v g 0 = 0 := (sb_facts ⟨g, hg⟩).2.1
theorem sb_vn {g k : Nat} (hg : g < 64) (hk : k + 1 < 2 ^ sb_c g) : sb_n g (sb_v g k) = sb_v g (k + 1) := (sb_facts ⟨g, hg⟩).2.2 ⟨k, by have := (sb_shl ⟨g, hg⟩).2.1; dsimp only at this; omega⟩ hk
theorem sb_p {g : Nat} (hg : g < 64) : 2 ^ sb_c g ≤ 64 ∧ 1 ≤ 2 ^ sb_c g := (sb_shl ⟨g, hg⟩).2
theorem sb_mem {g k : Nat} (hg : g < 64) (hk : k < 2 ^ sb_c g) : sb_v g k < 64 ∧ sb_v g k &&& g = sb_v g k := by
  have hl : k < (sb_l g).length := by rw [sb_len hg]; exact hk
  have hm : (sb_l g)[k] ∈ sb_l g := List.getElem_mem hl
  have e : sb_v g k = (sb_l g)[k] := by unfold sb_v; rw [List.getElem?_eq_getElem hl]; rfl
  rw [e]
  obtain ⟨h1, h2⟩ := List.mem_filter.mp hm
  exact ⟨List.mem_range.mp h1, of_decide_eq_true h2⟩
theorem sb_ex {g v : Nat} (hg : g < 64) (hv : v < 64) (h : v &&& g = v) : ∃ k, k < 2 ^ sb_c g ∧ sb_v g k = v := by
  have hm : v ∈ sb_l g := List.mem_filter.mpr ⟨List.mem_range.mpr hv, decide_eq_true h⟩
  obtain ⟨k, hk, e⟩ := List.getElem_of_mem hm
  refine ⟨k, by rw [← sb_len hg]; exact hk, ?_⟩
  unfold sb_v
  rw [List.getElem?_eq_getElem hk, e]
  rfl
theorem sb_inj {g j k : Nat} (hg : g < 64) (hj : j < 2 ^ sb_c g) (hk : k < 2 ^ sb_c g) (h : sb_v g j = sb_v g k) : j = k := by
  have hjl : j < (sb_l g).length := by rw [sb_len hg]; exact hj
  have hkl : k < (sb_l g).length := by rw [sb_len hg]; exact hk
  have ej : sb_v g j = (sb_l g)[j] := by unfold sb_v; rw [List.getElem?_eq_getElem hjl]; rfl
  have ek : sb_v g k = (sb_l g)[k] := by unfold sb_v; rw [List.getElem?_eq_getElem hkl]; rfl
  rw [ej, ek] at h
  have nd : (sb_l g).Nodup := List.Pairwise.filter _ List.nodup_range
  exact (List.getElem_inj nd).mp h
/-! ===== what leads to an end ===== -/
def ld_i (rw0 : Nat → Int64) (x : Int64) : Nat → Int64
  | 0 => x
  | f + 1 => ld_i rw0 x f ||| (if rw0 f &&& ld_i rw0 x f = 0 then 0 else Int64.ofNat 1 <<< ((Int32.ofNat f).toInt64 &&& 63))
def ld_k (rw0 : Nat → Int64) (n : Nat) (x : Int64) : Nat → Int64
  | 0 => x
  | k + 1 => ld_i rw0 (ld_k rw0 n x k) n
theorem ld_i_mono {rw0 : Nat → Int64} {x : Int64} {t : Nat} : ∀ f, nb x t = true → nb (ld_i rw0 x f) t = true
  | 0, h => h
  | f + 1, h => by
    show nb (ld_i rw0 x f ||| _) t = true
    rw [nb_or, nt_or_b]
    exact Or.inl (ld_i_mono f h)
theorem ld_i_at {rw0 : Nat → Int64} {x : Int64} {t : Nat} : ∀ f, t < f → f ≤ 64 → ¬ rw0 t &&& x = 0 → nb (ld_i rw0 x f) t = true
  | 0, h, _, _ => by omega
  | f + 1, h, hf, g => by
    show nb (ld_i rw0 x f ||| (if rw0 f &&& ld_i rw0 x f = 0 then 0 else Int64.ofNat 1 <<< ((Int32.ofNat f).toInt64 &&& 63))) t = true
    rw [nb_or, nt_or_b]
    by_cases e : t = f
    · subst e
      right
      have : ¬ rw0 t &&& ld_i rw0 x t = 0 := by
        obtain ⟨s, s1, s2⟩ := nb_nz.mp g
        rw [nb_and, nt_and_b] at s2
        exact nb_nz.mpr ⟨s, s1, by rw [nb_and, nt_and_b]; exact ⟨s2.1, ld_i_mono t s2.2⟩⟩
      rw [if_neg this, nb_one (by omega)]
      exact decide_eq_true rfl
    · exact Or.inl (ld_i_at f (by omega) (by omega) g)
theorem ld_i_new {rw0 : Nat → Int64} {x : Int64} {P : Nat → Prop} {M : Nat} (hM : M ≤ 64) (hP : ∀ t s, t < M → s < 64 → nb (rw0 t) s = true → P s → P t) (hx : ∀ t, t < 64 → nb x t = true → P t) : ∀ f, f ≤ M → ∀ t, t < 64 → nb (ld_i rw0 x f) t = true → P t
  | 0, _, t, ht, h => hx t ht h
  | f + 1, hf, t, ht, h => by
    have h : nb (ld_i rw0 x f ||| (if rw0 f &&& ld_i rw0 x f = 0 then 0 else Int64.ofNat 1 <<< ((Int32.ofNat f).toInt64 &&& 63))) t = true := h
    rw [nb_or, nt_or_b] at h
    rcases h with h | h
    · exact ld_i_new hM hP hx f (by omega) t ht h
    · by_cases c : rw0 f &&& ld_i rw0 x f = 0
      · rw [if_pos c, nb_0] at h
        cases h
      · rw [if_neg c, nb_one (by omega)] at h
        have := of_decide_eq_true h
        subst this
        obtain ⟨s, s1, s2⟩ := nb_nz.mp c
        rw [nb_and, nt_and_b] at s2
        exact hP t s (by omega) s1 s2.1 (ld_i_new hM hP hx t (by omega) s s1 s2.2)
theorem ld_k_P {rw0 : Nat → Int64} {n : Nat} {x : Int64} {P : Nat → Prop} (hn : n ≤ 64) (hP : ∀ t s, t < n → s < 64 → nb (rw0 t) s = true → P s → P t) (hx : ∀ t, t < 64 → nb x t = true → P t) : ∀ k t, t < 64 → nb (ld_k rw0 n x k) t = true → P t
  | 0, t, ht, h => hx t ht h
  | k + 1, t, ht, h => ld_i_new hn hP (ld_k_P hn hP hx k) n (Nat.le_refl _) t ht h
theorem ld_i_hi {rw0 : Nat → Int64} {x : Int64} {n t : Nat} (hn : n ≤ t) (ht : t < 64) : ∀ f, f ≤ n → (nb (ld_i rw0 x f) t = true ↔ nb x t = true)
  | 0, _ => Iff.rfl
  | f + 1, hf => by
    show nb (ld_i rw0 x f ||| (if rw0 f &&& ld_i rw0 x f = 0 then 0 else Int64.ofNat 1 <<< ((Int32.ofNat f).toInt64 &&& 63))) t = true ↔ _
    rw [nb_or, nt_or_b, ld_i_hi hn ht f (by omega)]
    constructor
    · rintro (h | h)
      · exact h
      · split at h
        · rw [nb_0] at h; cases h
        · rw [nb_one (by omega)] at h
          have := of_decide_eq_true h
          omega
    · exact Or.inl
/-- behind n rounds nothing is new -/
theorem ld_stable {rw0 : Nat → Int64} {n : Nat} {x : Int64} (hn : n ≤ 64) : ld_k rw0 n x (n + 1) = ld_k rw0 n x n := by
  have hm : ∀ k t, nb (ld_k rw0 n x k) t = true → nb (ld_k rw0 n x (k + 1)) t = true := fun k t h => ld_i_mono n h
  have hhi : ∀ k t, n ≤ t → t < 64 → (nb (ld_k rw0 n x (k + 1)) t = true ↔ nb (ld_k rw0 n x k) t = true) := fun k t h1 h2 => ld_i_hi h1 h2 n (Nat.le_refl _)
  have key := nz_lay (R := fun k t => nb (ld_k rw0 n x k) t = true) (n := n) hm (fun k hk => by
    have e : ld_k rw0 n x (k + 1) = ld_k rw0 n x k := nb_ext (fun t ht => nb_eq (by
      by_cases c : t < n
      · exact ⟨hk t c, hm k t⟩
      · exact hhi k t (by omega) ht))
    intro t ht h
    have e2 : ld_k rw0 n x (k + 2) = ld_k rw0 n x (k + 1) := by
      show ld_i rw0 (ld_k rw0 n x (k + 1)) n = ld_i rw0 (ld_k rw0 n x k) n
      rw [e]
    rw [e2] at h
    exact h)
  refine nb_ext (fun t ht => nb_eq ?_)
  by_cases c : t < n
  · exact ⟨key (n + 1) t c, hm n t⟩
  · exact hhi n t (by omega) ht
def ww_h163 (u : Nat) (a : Int64) (rw0 : Nat → Int64) (T : wv_T) (N : Nat) (I : Nat → Nat → Int32) (L : Nat → Nat → Int64) (R : Nat → Nat → Option Nat) : Nat → Option (Nat → wv_P) := fun pc =>
  if pc = 5 then some (fun mm lv st T1 N1 I1 L1 R1 nc ns => ∃ (k : Nat) (x : Option Value), lv = [some (.ref 10), some (.long a), none, some (.long (ld_k rw0 (u + 1) a k)), none, some (.int (Int32.ofNat k)), x, none, none, none] ∧ st = [] ∧ T1 = T ∧ N1 = N ∧ I1 = I ∧ L1 = L ∧ R1 = R ∧ nc = 0 ∧ ns = 0 ∧ k ≤ u + 1 ∧ mm = 100 * (u + 1 - k))
  else if pc = 17 then some (fun mm lv st T1 N1 I1 L1 R1 nc ns => ∃ k f : Nat, lv = [some (.ref 10), some (.long a), none, some (.long (ld_i rw0 (ld_k rw0 (u + 1) a k) f)), none, some (.int (Int32.ofNat k)), some (.int (Int32.ofNat f)), none, none, none] ∧ st = [] ∧ T1 = T ∧ N1 = N ∧ I1 = I ∧ L1 = L ∧ R1 = R ∧ nc = 0 ∧ ns = 0 ∧ k ≤ u ∧ f ≤ u + 1 ∧ mm = 100 * (u + 1 - k) - 1 - f)
  else none
def ww_c163 : wv_c1 := fun as T N I L R q => ∃ (u : Nat) (a : Int64), as = [.ref 10, .long a] ∧ wm_T T ∧ I 10 9 = Int32.ofNat u ∧ u ≤ 40 ∧ q (.inl (some (.long (ld_k (L 11) (u + 1) a (u + 1))))) T N I L R 0 0
set_option maxRecDepth 100000 in
theorem wM_163 : ∃ cb ci np, pt_mt 163 = some (5, cb, 7, false, some .long, ci, np) := ⟨_, _, _, rfl⟩
set_option maxRecDepth 100000 in
set_option maxHeartbeats 4000000 in
theorem ww_leadingTo {sc : pt_Sc} {d : Nat} : wv_C wm_fx sc (d + 1) 163 ww_c163 := by
  rintro as T N I L R q ⟨u, a, rfl, hT, h9, hu, h⟩ w0 HR
  obtain ⟨cb, ci, np, hm⟩ := wM_163
  refine wv_meth (hh := none) rfl (sp := fun _ _ _ _ _ _ _ _ => False) (hd := ww_h163 u a (L 11) T N I L R) (n := 300) (n1 := 300) hm zc_163 rfl (fun k as T N I L R q h => by cases h) ?_ ?_ HR
  · exact ⟨100 * (u + 1 - 0), 0, none, rfl, rfl, rfl, rfl, rfl, rfl, rfl, rfl, rfl, Nat.zero_le _, rfl⟩
  · intro pc P hP m lv st T1 N1 I1 L1 R1 nc ns hh
    unfold ww_h163 at hP
    split at hP
    · cases hP
      rename_i hpc
      subst hpc
      obtain ⟨k, x, rfl, rfl, rfl, rfl, rfl, rfl, rfl, rfl, rfl, hk, hmm⟩ := hh
      have ek := wi_on (n := k) (by omega)
      have eu := wi_on (n := u) (by omega)
      refine ⟨fun h1 => ?_, fun h1 => ?_⟩
      · have e : k = u + 1 := by rw [h9, wi_lt, ek, eu] at h1; omega
        subst e
        exact h
      · have hlt : k ≤ u := by rw [h9, wi_lt, ek, eu] at h1; omega
        exact ⟨100 * (u + 1 - k) - 1 - 0, by omega, k, 0, rfl, rfl, rfl, rfl, rfl, rfl, rfl, rfl, rfl, hlt, Nat.zero_le _, rfl⟩
    · split at hP
      · cases hP
        rename_i hpc
        subst hpc
        obtain ⟨k, f, rfl, rfl, rfl, rfl, rfl, rfl, rfl, rfl, rfl, hk, hf, hmm⟩ := hh
        have ef := wi_on (n := f) (by omega)
        have efn := wi_onn (n := f) (by omega)
        have eu := wi_on (n := u) (by omega)
        refine ⟨fun h1 => ?_, fun h1 => ?_⟩
        · have e : f = u + 1 := by rw [h9, wi_lt, ef, eu] at h1; omega
          subst e
          exact ⟨100 * (u + 1 - (k + 1)), by omega, k + 1, _, by rw [← wq_4s k]; rfl, rfl, rfl, rfl, rfl, rfl, rfl, rfl, rfl, by omega, rfl⟩
        · have hlt : f ≤ u := by rw [h9, wi_lt, ef, eu] at h1; omega
          refine ⟨_, wm_t hT rfl, by rw [wi_le, ef, wi_0]; omega, ?_, ?_⟩
          · rw [efn]
            intro h2
            have h2 : L1 11 f &&& ld_i (L1 11) (ld_k (L1 11) (u + 1) a k) f = 0 := lg_cmp_0.mp h2
            refine ⟨100 * (u + 1 - k) - 1 - (f + 1), by omega, k, f + 1, ?_, rfl, rfl, rfl, rfl, rfl, rfl, rfl, rfl, hk, by omega, rfl⟩
            rw [← wq_4s f, show ld_i (L1 11) (ld_k (L1 11) (u + 1) a k) (f + 1) = ld_i (L1 11) (ld_k (L1 11) (u + 1) a k) f ||| (if L1 11 f &&& ld_i (L1 11) (ld_k (L1 11) (u + 1) a k) f = 0 then 0 else Int64.ofNat 1 <<< ((Int32.ofNat f).toInt64 &&& 63)) from rfl, if_pos h2]
            rfl
          · rw [efn]
            intro h2
            have h2 : ¬ L1 11 f &&& ld_i (L1 11) (ld_k (L1 11) (u + 1) a k) f = 0 := fun z => h2 (lg_cmp_0.mpr z)
            refine ⟨100 * (u + 1 - k) - 1 - (f + 1), by omega, k, f + 1, ?_, rfl, rfl, rfl, rfl, rfl, rfl, rfl, rfl, hk, by omega, rfl⟩
            rw [← wq_4s f, show ld_i (L1 11) (ld_k (L1 11) (u + 1) a k) (f + 1) = ld_i (L1 11) (ld_k (L1 11) (u + 1) a k) f ||| (if L1 11 f &&& ld_i (L1 11) (ld_k (L1 11) (u + 1) a k) f = 0 then 0 else Int64.ofNat 1 <<< ((Int32.ofNat f).toInt64 &&& 63)) from rfl, if_neg h2]
            rfl
      · cases hP
