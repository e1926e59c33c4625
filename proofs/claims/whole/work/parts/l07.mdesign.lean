/-! ===== the reference: a design text ===== -/
theorem dl_mc0 {k : Int32} (h : ds_vk k) : ds_mc k = (Int8.ofInt 50).toInt32 ↔ k = (Int8.ofInt 0).toInt32 := by
  unfold ds_vk at h
  rcases h with h | h | h | h | h | h | h | h | h | h | h | h | h | h | h | h | h | h <;> subst h <;> decide
theorem dl_mc33 {k : Int32} (h : ds_vk k) : ds_mc k = (Int8.ofInt 71).toInt32 ↔ k = (Int8.ofInt 33).toInt32 := by
  unfold ds_vk at h
  rcases h with h | h | h | h | h | h | h | h | h | h | h | h | h | h | h | h | h | h <;> subst h <;> decide
theorem dl_mc34 {k : Int32} (h : ds_vk k) : ds_mc k = (Int8.ofInt 72).toInt32 ↔ k = (Int8.ofInt 34).toInt32 := by
  unfold ds_vk at h
  rcases h with h | h | h | h | h | h | h | h | h | h | h | h | h | h | h | h | h | h <;> subst h <;> decide
theorem dl_mc35 {k : Int32} (h : ds_vk k) : ds_mc k = (Int8.ofInt 73).toInt32 ↔ k = (Int8.ofInt 35).toInt32 := by
  unfold ds_vk at h
  rcases h with h | h | h | h | h | h | h | h | h | h | h | h | h | h | h | h | h | h <;> subst h <;> decide
theorem dl_mc28 {k : Int32} (h : ds_vk k) : ds_mc k = (Int8.ofInt 12).toInt32 ↔ k = (Int8.ofInt 28).toInt32 := by
  unfold ds_vk at h
  rcases h with h | h | h | h | h | h | h | h | h | h | h | h | h | h | h | h | h | h <;> subst h <;> decide
theorem dl_mc36 {k : Int32} (h : ds_vk k) : ds_mc k = (Int8.ofInt 74).toInt32 ↔ k = (Int8.ofInt 36).toInt32 := by
  unfold ds_vk at h
  rcases h with h | h | h | h | h | h | h | h | h | h | h | h | h | h | h | h | h | h <;> subst h <;> decide

/-- which tokens there are -/
theorem dl_vk1 {t : Nat → Int32} {n p : Nat} : ∀ x, (ds_st t n p).1 = some x → ds_vk x.1 := by
  intro x hx
  have w1 : ds_vk (Int32.ofInt 1) := Or.inr (Or.inl rfl)
  unfold ds_st at hx
  split at hx
  · cases hx
  · split at hx
    · rename_i k hk
      cases hx
      exact (ds_k_f hk).2.1
    · split at hx
      · unfold ds_word at hx
        split at hx
        · cases hx
          exact w1
        split at hx
        · cases hx
          exact (show ds_vk (Int8.ofInt 33).toInt32 by unfold ds_vk; decide)
        split at hx
        · cases hx
          exact (show ds_vk (Int8.ofInt 34).toInt32 by unfold ds_vk; decide)
        split at hx
        · cases hx
          exact (show ds_vk (Int8.ofInt 35).toInt32 by unfold ds_vk; decide)
        split at hx
        · cases hx
          exact (show ds_vk (Int8.ofInt 28).toInt32 by unfold ds_vk; decide)
        split at hx
        · cases hx
          exact (show ds_vk (Int8.ofInt 36).toInt32 by unfold ds_vk; decide)
        · cases hx
          exact (show ds_vk (Int8.ofInt 32).toInt32 by unfold ds_vk; decide)
      · cases hx
        exact w1
theorem dl_vk {t : Nat → Int32} {n : Nat} : ∀ f p x, x ∈ wt_lex (ds_st t n) n f p → ds_vk x.1 := by
  intro f
  have w0 : ∀ x, x ∈ [((Int32.ofInt 0, n, Int32.ofInt 0, Int32.ofInt 0, 0) : wt_t)] → ds_vk x.1 := fun x hx => by
    rw [List.mem_singleton.mp hx]
    exact Or.inl rfl
  induction f with
  | zero => exact fun p x hx => w0 x hx
  | succ f ih =>
    intro p x hx
    unfold wt_lex at hx
    by_cases c : p < n
    · rw [if_pos c] at hx
      have g := dl_vk1 (t := t) (n := n) (p := p)
      generalize ds_st t n p = y at hx g
      obtain ⟨o, p2⟩ := y
      cases o with
      | none => exact ih p2 x hx
      | some w =>
        have hx : x ∈ w :: wt_lex (ds_st t n) n f p2 := hx
        rcases List.mem_cons.mp hx with e | e
        · rw [e]
          exact g w rfl
        · exact ih p2 x e
    · rw [if_neg c] at hx
      exact w0 x hx
def dl_Fr (I I1 : Nat → Nat → Int32) : Prop := ∀ c j, ¬ (c = 460 ∧ (j = 0 ∨ (3 ≤ j ∧ j ≤ 5) ∨ j = 8 ∨ (100 ≤ j ∧ j ≤ 103) ∨ (110 ≤ j ∧ j ≤ 116))) → ¬ (527 ≤ c ∧ c ≤ 535) → I1 c j = I c j
theorem dl_Fr_Y {T : wv_T} {I I1 : Nat → Nat → Int32} {t : Nat → Int32} {n : Nat} (h : wp_Y T I t n) (g : dl_Fr I I1) : wp_Y T I1 t n := wp_Y_D h (g _ _ (by omega) (by omega)) (fun k => g _ _ (by omega) (by omega))
/-- what is known of the token at level e -/
def dl_k (e g A : Nat) (k : Int32) : Prop := (1 ≤ e → 0 < A → ¬ k = (Int8.ofInt 0).toInt32) ∧ (2 ≤ e → ¬ (k = (Int8.ofInt 33).toInt32 ∧ g = 0)) ∧ (3 ≤ e → ¬ (k = (Int8.ofInt 34).toInt32 ∧ g < 2 ∧ 0 < A)) ∧ (4 ≤ e → ¬ (0 < A ∧ k = (Int8.ofInt 35).toInt32)) ∧ (5 ≤ e → ¬ (0 < A ∧ k = (Int8.ofInt 28).toInt32)) ∧ (6 ≤ e → ¬ (0 < A ∧ k = (Int8.ofInt 36).toInt32))
theorem dl_k1 {g A : Nat} {k : Int32} (h : dl_k 0 g A k) (x : 0 < A → ¬ k = (Int8.ofInt 0).toInt32) : dl_k 1 g A k := ⟨fun _ => x, fun z => by omega, fun z => by omega, fun z => by omega, fun z => by omega, fun z => by omega⟩
theorem dl_m1 (s : Nat) (h : s ≤ 401) : 10 * (1000 - s) + 9 - 1 < 10 * (1000 - s) + 9 - 0 := by omega
theorem dl_k2 {g A : Nat} {k : Int32} (h : dl_k 1 g A k) (x : ¬ (k = (Int8.ofInt 33).toInt32 ∧ g = 0)) : dl_k 2 g A k := ⟨fun _ => h.1 (by omega), fun _ => x, fun z => by omega, fun z => by omega, fun z => by omega, fun z => by omega⟩
theorem dl_m2 (s : Nat) (h : s ≤ 401) : 10 * (1000 - s) + 9 - 2 < 10 * (1000 - s) + 9 - 1 := by omega
theorem dl_k3 {g A : Nat} {k : Int32} (h : dl_k 2 g A k) (x : ¬ (k = (Int8.ofInt 34).toInt32 ∧ g < 2 ∧ 0 < A)) : dl_k 3 g A k := ⟨fun _ => h.1 (by omega), fun _ => h.2.1 (by omega), fun _ => x, fun z => by omega, fun z => by omega, fun z => by omega⟩
theorem dl_m3 (s : Nat) (h : s ≤ 401) : 10 * (1000 - s) + 9 - 3 < 10 * (1000 - s) + 9 - 2 := by omega
theorem dl_k4 {g A : Nat} {k : Int32} (h : dl_k 3 g A k) (x : ¬ (0 < A ∧ k = (Int8.ofInt 35).toInt32)) : dl_k 4 g A k := ⟨fun _ => h.1 (by omega), fun _ => h.2.1 (by omega), fun _ => h.2.2.1 (by omega), fun _ => x, fun z => by omega, fun z => by omega⟩
theorem dl_m4 (s : Nat) (h : s ≤ 401) : 10 * (1000 - s) + 9 - 4 < 10 * (1000 - s) + 9 - 3 := by omega
theorem dl_k5 {g A : Nat} {k : Int32} (h : dl_k 4 g A k) (x : ¬ (0 < A ∧ k = (Int8.ofInt 28).toInt32)) : dl_k 5 g A k := ⟨fun _ => h.1 (by omega), fun _ => h.2.1 (by omega), fun _ => h.2.2.1 (by omega), fun _ => h.2.2.2.1 (by omega), fun _ => x, fun z => by omega⟩
theorem dl_m5 (s : Nat) (h : s ≤ 401) : 10 * (1000 - s) + 9 - 5 < 10 * (1000 - s) + 9 - 4 := by omega
theorem dl_k6 {g A : Nat} {k : Int32} (h : dl_k 5 g A k) (x : ¬ (0 < A ∧ k = (Int8.ofInt 36).toInt32)) : dl_k 6 g A k := ⟨fun _ => h.1 (by omega), fun _ => h.2.1 (by omega), fun _ => h.2.2.1 (by omega), fun _ => h.2.2.2.1 (by omega), fun _ => h.2.2.2.2.1 (by omega), fun _ => x⟩
theorem dl_m6 (s : Nat) (h : s ≤ 401) : 10 * (1000 - s) + 9 - 6 < 10 * (1000 - s) + 9 - 5 := by omega
theorem dl_k0 {g A : Nat} {k : Int32} : dl_k 0 g A k := ⟨fun z => by omega, fun z => by omega, fun z => by omega, fun z => by omega, fun z => by omega, fun z => by omega⟩
theorem dl_Fr_I {I I1 I2 : Nat → Nat → Int32} (h : dl_Fr I I1) (g : dm_IF I1 I2) : dl_Fr I I2 := fun c j z1 z2 => (g c j (by omega) (by omega)).trans (h c j z1 z2)
theorem dl_0_I {I1 I2 : Nat → Nat → Int32} (h : I1 460 0 = 0) (g : dm_IF I1 I2) : I2 460 0 = 0 := (g _ _ (by omega) (by omega)).trans h
theorem dl_Fr_L {I I1 I2 : Nat → Nat → Int32} {B : Nat} (h : dl_Fr I I1) (hB : B ≤ 5) (g : dm_LF B I1 I2) : dl_Fr I I2 := fun c j z1 z2 => (g c j (by omega) (by omega) (by omega)).trans (h c j z1 z2)
theorem dl_0_L {I1 I2 : Nat → Nat → Int32} {B : Nat} (h : I1 460 0 = 0) (hB : B ≤ 5) (g : dm_LF B I1 I2) : I2 460 0 = 0 := (g _ _ (by omega) (by omega) (by omega)).trans h
theorem dl_Fr_W {I I1 I2 : Nat → Nat → Int32} (h : dl_Fr I I1) (g : dm_WF I1 I2) : dl_Fr I I2 := fun c j z1 z2 => (g c j (by omega) (by omega)).trans (h c j z1 z2)
theorem dl_0_W {I1 I2 : Nat → Nat → Int32} (h : I1 460 0 = 0) (g : dm_WF I1 I2) : I2 460 0 = 0 := (g _ _ (by omega) (by omega)).trans h
theorem dl_Fr_X2 {I I1 I2 : Nat → Nat → Int32} (h : dl_Fr I I1) (g : dm_XF 532 I1 I2) : dl_Fr I I2 := fun c j z1 z2 => (g c j (by omega) (by omega)).trans (h c j z1 z2)
theorem dl_0_X2 {I1 I2 : Nat → Nat → Int32} (h : I1 460 0 = 0) (g : dm_XF 532 I1 I2) : I2 460 0 = 0 := (g _ _ (by omega) (by omega)).trans h
theorem dl_Fr_X4 {I I1 I2 : Nat → Nat → Int32} (h : dl_Fr I I1) (g : dm_XF 534 I1 I2) : dl_Fr I I2 := fun c j z1 z2 => (g c j (by omega) (by omega)).trans (h c j z1 z2)
theorem dl_0_X4 {I1 I2 : Nat → Nat → Int32} (h : I1 460 0 = 0) (g : dm_XF 534 I1 I2) : I2 460 0 = 0 := (g _ _ (by omega) (by omega)).trans h
theorem dl_wr2 {t : Nat → Int32} {ts : List wt_t} {n A B : Nat} {x : ds_q} {nr : ds_n} {I I1 : Nat → Nat → Int32} {v : Int32} {x2 : ds_q} (ht : wt_tx t n) (hn : n ≤ 400) (hts : ts = wt_lex (ds_st t n) n 400 0) (h : dl_N t ts n 2 A B x.1 nr x.2 I) (h35 : tk_now ts x.1 = (Int8.ofInt 35).toInt32) (hZ : dm_Z t ts n x2.1 I1) (hG : dm_G I1 A B x2.2) (hF : dm_WF I I1) (he : x2.1.2 = (dm_E ts n nr A B (dm_wir ts n nr x.1, x.2)).2.1.2) (hN : x2.1.2 = none → (v, x2) = dm_E ts n nr A B (dm_wir ts n nr x.1, x.2) ∧ ds_lp v ∧ dm_N t n (nr ++ [((ds_nn ts n nr (tk_take ts n (Int8.ofInt 35).toInt32 x.1)).1, v)]) I1) : (∃ A2 B2 s2 nr2 gs2, dl_N t ts n 2 A2 B2 s2 nr2 gs2 I1 ∧ x.1.1 < s2.1) ∨ dl_B ts n I1 := dl_wr ht hn hts h h35 hZ hG hF he hN
theorem dl_ne2 {t : Nat → Int32} {ts : List wt_t} {n A B : Nat} {x : ds_q} {nr : ds_n} {I I1 : Nat → Nat → Int32} {v : Int32} {x2 : ds_q} (h : dl_N t ts n 2 A B x.1 nr x.2 I) (h28 : tk_now ts x.1 = (Int8.ofInt 28).toInt32) (hZ : dm_Z t ts n x2.1 I1) (hG : dm_G I1 A B x2.2) (hF : dm_XF 532 I I1) (he : x2.1.2 = (dm_E ts n nr A B (ds_s3 ts n (ds_s2 ts n A B nr x.1), x.2)).2.1.2) (hN : x2.1.2 = none → (v, x2) = dm_E ts n nr A B (ds_s3 ts n (ds_s2 ts n A B nr x.1), x.2) ∧ ds_lp v ∧ ∀ j, I1 532 j = ds_up (fun j => I 532 j) ((ds_ix nr (tk_name ts (tk_adv ts x.1).1)).getD 0 - A) v j) : (∃ A2 B2 s2 nr2 gs2, dl_N t ts n 2 A2 B2 s2 nr2 gs2 I1 ∧ x.1.1 < s2.1) ∨ dl_B ts n I1 := by
  have e : dl_Y ts n A B nr x.1 x.2 = dm_E ts n nr A B (ds_s3 ts n (ds_s2 ts n A B nr x.1), x.2) := by unfold dl_Y; rfl
  rw [← e] at he hN
  exact dl_ne h h28 hZ hG hF he hN
theorem dl_si2 {t : Nat → Int32} {ts : List wt_t} {n A B : Nat} {x : ds_q} {nr : ds_n} {I I1 : Nat → Nat → Int32} {v : Int32} {x2 : ds_q} (h : dl_N t ts n 2 A B x.1 nr x.2 I) (h28 : tk_now ts x.1 = (Int8.ofInt 36).toInt32) (hZ : dm_Z t ts n x2.1 I1) (hG : dm_G I1 A B x2.2) (hF : dm_XF 534 I I1) (he : x2.1.2 = (dm_E ts n nr A B (ds_s3 ts n (ds_s2 ts n A B nr x.1), x.2)).2.1.2) (hN : x2.1.2 = none → (v, x2) = dm_E ts n nr A B (ds_s3 ts n (ds_s2 ts n A B nr x.1), x.2) ∧ ds_lp v ∧ ∀ j, I1 534 j = ds_up (fun j => I 534 j) (((tk_name ts (tk_adv ts x.1).1).toInt32 - Int32.ofInt 1).toNatClampNeg) v j) : (∃ A2 B2 s2 nr2 gs2, dl_N t ts n 2 A2 B2 s2 nr2 gs2 I1 ∧ x.1.1 < s2.1) ∨ dl_B ts n I1 := by
  have e : dl_Y ts n A B nr x.1 x.2 = dm_E ts n nr A B (ds_s3 ts n (ds_s2 ts n A B nr x.1), x.2) := by unfold dl_Y; rfl
  rw [← e] at he hN
  exact dl_si h h28 hZ hG hF he hN
def dl_lv (g : Nat) : List (Option Value) := [some (.ref 460), some (.int (Int32.ofNat g)), none]
def dl_e (e : Nat) (t : Nat → Int32) (ts : List wt_t) (n : Nat) (T : wv_T) (N : Nat) (I : Nat → Nat → Int32) (L : Nat → Nat → Int64) (R : Nat → Nat → Option Nat) : Nat → wv_P := fun mm lv st T1 N1 I1 L1 R1 nc ns => ∃ (g A B : Nat) (s : wt_q) (nr : ds_n) (gs : ds_g), lv = dl_lv g ∧ st = [] ∧ T1 = T ∧ N1 = N ∧ L1 = L ∧ R1 = R ∧ nc = 0 ∧ ns = 0 ∧ g ≤ 2 ∧ (A = 0 → g = 0) ∧ dl_Fr I I1 ∧ I1 460 0 = 0 ∧ dl_N t ts n g A B s nr gs I1 ∧ dl_k e g A (tk_now ts s) ∧ mm = 10 * (1000 - s.1) + 9 - e
def dl_h465 (t : Nat → Int32) (ts : List wt_t) (n : Nat) (T : wv_T) (N : Nat) (I : Nat → Nat → Int32) (L : Nat → Nat → Int64) (R : Nat → Nat → Option Nat) : Nat → Option (Nat → wv_P) := fun pc =>
  if pc = 32 then some (fun mm lv st T1 N1 I1 L1 R1 nc ns => ∃ k : Nat, lv = dl_lv k ∧ st = [] ∧ T1 = T ∧ N1 = N ∧ L1 = L ∧ R1 = R ∧ nc = 0 ∧ ns = 0 ∧ k ≤ 6 ∧ mm = 100000 - k ∧ dl_Fr I I1 ∧ I1 460 0 = 0 ∧ I1 460 100 = 0 ∧ I1 460 101 = 0 ∧ I1 460 102 = 0 ∧ I1 460 103 = 0 ∧ I1 460 8 = Int32.ofInt (-1) ∧ ∀ j, j < k → I1 534 j = Int32.ofInt 2)
  else if pc = 62 then some (fun mm lv st T1 N1 I1 L1 R1 nc ns => dl_e 0 t ts n T N I L R mm lv st T1 N1 I1 L1 R1 nc ns ∨ ∃ g : Nat, lv = dl_lv g ∧ st = [] ∧ T1 = T ∧ N1 = N ∧ L1 = L ∧ R1 = R ∧ nc = 0 ∧ ns = 0 ∧ dl_Fr I I1 ∧ I1 460 0 = 0 ∧ dl_B ts n I1 ∧ mm = 5)
  else if pc = 85 then some (dl_e 1 t ts n T N I L R) else if pc = 105 then some (dl_e 2 t ts n T N I L R) else if pc = 135 then some (dl_e 3 t ts n T N I L R) else if pc = 160 then some (dl_e 4 t ts n T N I L R) else if pc = 185 then some (dl_e 5 t ts n T N I L R) else if pc = 210 then some (dl_e 6 t ts n T N I L R)
  else if pc = 221 then some (fun mm lv st T1 N1 I1 L1 R1 nc ns => ∃ g : Nat, lv = dl_lv g ∧ st = [] ∧ T1 = T ∧ N1 = N ∧ L1 = L ∧ R1 = R ∧ nc = 0 ∧ ns = 0 ∧ dl_Fr I I1 ∧ I1 460 0 = 0 ∧ ((∃ A B s nr gs, dl_N t ts n g A B s nr gs I1 ∧ 0 < A ∧ tk_now ts s = 0) ∨ dl_B ts n I1) ∧ mm = 1)
  else none
/-- the design that was read -/
def dl_D (ts : List wt_t) (n : Nat) (I1 : Nat → Nat → Int32) : Prop := dsA ts n ≤ 3 ∧ dsB ts n ≤ 5 ∧ (dsZ ts n).1.2.length ≤ 60 ∧ I1 460 56 = Int32.ofNat (dsA ts n) ∧ I1 460 57 = Int32.ofNat (dsB ts n) ∧ I1 460 58 = Int32.ofNat (dsZ ts n).1.2.length ∧ I1 460 66 = Int32.ofInt 0 ∧ (∀ j x, (dsZ ts n).1.2[j]? = some x → I1 496 j = x.1 ∧ I1 497 j = x.2) ∧ (∀ j, j < dsB ts n → I1 498 j = (dsZ ts n).2.2.1 j ∧ I1 499 j = dsFs ts n j) ∧ ∀ j, j < 6 → I1 500 j = (dsZ ts n).2.2.2 j
def dl_FF (I I1 : Nat → Nat → Int32) : Prop := ∀ c j, ¬ (c = 460 ∧ (j = 0 ∨ (2 ≤ j ∧ j ≤ 5) ∨ j = 8 ∨ (56 ≤ j ∧ j ≤ 58) ∨ j = 66 ∨ (100 ≤ j ∧ j ≤ 103) ∨ (110 ≤ j ∧ j ≤ 116))) → ¬ (496 ≤ c ∧ c ≤ 500) → ¬ (527 ≤ c ∧ c ≤ 535) → I1 c j = I c j
theorem dl_back {t : Nat → Int32} {ts : List wt_t} {n g : Nat} {s : wt_q} {T : wv_T} {N : Nat} {I I2 : Nat → Nat → Int32} {L : Nat → Nat → Int64} {R : Nat → Nat → Option Nat} {m : Nat} (hg : g ≤ 2) (hl : s.1 < 402) (hm : 10 * (1000 - s.1) + 1 ≤ m) (hF : dl_Fr I I2) (h0 : I2 460 0 = 0) (h : (∃ A2 B2 s2 nr2 gs2, dl_N t ts n g A2 B2 s2 nr2 gs2 I2 ∧ s.1 < s2.1) ∨ dl_B ts n I2) : ∃ m1, m1 < m ∧ (dl_e 0 t ts n T N I L R m1 (dl_lv g) [] T N I2 L R 0 0 ∨ ∃ g2 : Nat, dl_lv g = dl_lv g2 ∧ ([] : List Value) = [] ∧ T = T ∧ N = N ∧ L = L ∧ R = R ∧ (0 : Nat) = 0 ∧ (0 : Nat) = 0 ∧ dl_Fr I I2 ∧ I2 460 0 = 0 ∧ dl_B ts n I2 ∧ m1 = 5) := by
  rcases h with ⟨A2, B2, s2, nr2, gs2, h1, h2⟩ | h
  · refine ⟨10 * (1000 - s2.1) + 9 - 0, by omega, Or.inl ⟨g, A2, B2, s2, nr2, gs2, rfl, rfl, rfl, rfl, rfl, rfl, rfl, rfl, hg, fun z => ?_, hF, h0, h1, dl_k0, rfl⟩⟩
    rcases h1.2.2.2.2.2.2.2.2 with ⟨y, _⟩ | ⟨_, y, _⟩ | ⟨_, y, _⟩
    · exact y
    · omega
    · omega
  · exact ⟨5, by omega, Or.inr ⟨g, rfl, rfl, rfl, rfl, rfl, rfl, rfl, rfl, hF, h0, h, rfl⟩⟩
def dl_c465 : wv_c1 := fun as T N I L R q => ∃ (t : Nat → Int32) (n : Nat) (ts : List wt_t), as = [.ref 460] ∧ wm_T T ∧ wp_Y T I t n ∧ ts = wt_lex (ds_st t n) n 400 0 ∧ ∀ I1, dl_FF I I1 → I1 460 0 = 0 → I1 460 2 = 0 → ((dsZ ts n).1.1.2 = none → dl_D ts n I1) → (¬ (dsZ ts n).1.1.2 = none → ∀ c j, (c = 460 ∧ ((56 ≤ j ∧ j ≤ 58) ∨ j = 66)) ∨ (496 ≤ c ∧ c ≤ 500) → I1 c j = I c j) → q (.inl (some (.int (wt_f (dsZ ts n).1.1.2)))) T N I1 L R 0 0
set_option maxRecDepth 100000 in
theorem wM_465 : ∃ cb ci np, pt_mt 465 = some (32, cb, 2, false, some .int, ci, np) := ⟨_, _, _, rfl⟩
set_option maxRecDepth 100000 in
set_option maxHeartbeats 4000000 in
theorem dl_readDesign {sc : pt_Sc} {d : Nat} : wv_C wm_fx sc (d + 1 + 1 + 1 + 1 + 1 + 1 + 1 + 1) 465 dl_c465 := by
  rintro as T N I L R q ⟨t, n, ts, rfl, hT, hY, hts, h⟩ w0 HR
  obtain ⟨cb, ci, np, hm⟩ := wM_465
  have htx := hY.2.2.2
  have hn4 := hY.2.2.1
  have hTs : dm_T t ts n := ⟨fun x hx => dl_vk 400 0 x (by rw [← hts]; exact hx), hn4⟩
  have hc466 : wv_C wm_fx sc (d + 1 + 1 + 1 + 1 + 1 + 1 + 1) 466 wp_c466 := wv_C_deep (by omega) (wp_nextOfDesign (d := d))
  have hc468 : wv_C wm_fx sc (d + 1 + 1 + 1 + 1 + 1 + 1 + 1) 468 dm_c468 := wv_C_deep (by omega) (dm_inputStatement (d := d))
  have hc472 : wv_C wm_fx sc (d + 1 + 1 + 1 + 1 + 1 + 1 + 1) 472 dm_c472 := wv_C_deep (by omega) (dm_latchStatement (d := d))
  have hc473 : wv_C wm_fx sc (d + 1 + 1 + 1 + 1 + 1 + 1 + 1) 473 dm_c473 := wv_C_deep (by omega) (dm_wireStatement (d := d))
  have hc483 : wv_C wm_fx sc (d + 1 + 1 + 1 + 1 + 1 + 1 + 1) 483 dm_c483 := wv_C_deep (by omega) (dm_nextStatement (d := d))
  have hc484 : wv_C wm_fx sc (d + 1 + 1 + 1 + 1 + 1 + 1 + 1) 484 dm_c484 := wv_C_deep (by omega) (dm_signalStatement (d := d))
  have hc358 : wv_C wm_fx sc (d + 1 + 1 + 1 + 1 + 1 + 1 + 1) 358 wp_c358 := wv_C_deep (by omega) (wp_badC (d := d))
  have hc485 : wv_C wm_fx sc (d + 1 + 1 + 1 + 1 + 1 + 1 + 1) 485 wp_c485 := wv_C_deep (by omega) (wp_takeDesign (d := d))
  refine wv_meth (hh := none) rfl (sp := wv_sp [(466, wp_c466), (468, dm_c468), (472, dm_c472), (473, dm_c473), (483, dm_c483), (484, dm_c484), (358, wp_c358), (485, wp_c485)]) (hd := dl_h465 t ts n T N I L R) (n := 300) (n1 := 300) hm zc_465 rfl (wv_sp_ok (fun q hq => by
    rcases List.mem_cons.mp hq with h | h
    · rw [h]; exact hc466
    rcases List.mem_cons.mp h with h | h
    · rw [h]; exact hc468
    rcases List.mem_cons.mp h with h | h
    · rw [h]; exact hc472
    rcases List.mem_cons.mp h with h | h
    · rw [h]; exact hc473
    rcases List.mem_cons.mp h with h | h
    · rw [h]; exact hc483
    rcases List.mem_cons.mp h with h | h
    · rw [h]; exact hc484
    rcases List.mem_cons.mp h with h | h
    · rw [h]; exact hc358
    rw [List.mem_singleton.mp h]; exact hc485)) ?_ ?_ HR
  · refine ⟨_, 0, rfl, rfl, rfl, rfl, rfl, rfl, rfl, rfl, by omega, rfl, fun c j z1 z2 => ?_, ?_, ?_, ?_, ?_, ?_, ?_, fun j hj => by omega⟩
    · rw [wv_u_no _ _ (by omega), wv_u_no _ _ (by omega), wv_u_no _ _ (by omega), wv_u_no _ _ (by omega), wv_u_no _ _ (by omega), wv_u_no _ _ (by omega)]
    · rw [wv_u_no _ _ (by omega), wv_u_no _ _ (by omega), wv_u_no _ _ (by omega), wv_u_no _ _ (by omega), wv_u_no _ _ (by omega), wv_u_at]
      rfl
    · rw [wv_u_no _ _ (by omega), wv_u_at]
      rfl
    · rw [wv_u_no _ _ (by omega), wv_u_no _ _ (by omega), wv_u_no _ _ (by omega), wv_u_no _ _ (by omega), wv_u_at]
      rfl
    · rw [wv_u_no _ _ (by omega), wv_u_no _ _ (by omega), wv_u_no _ _ (by omega), wv_u_at]
      rfl
    · rw [wv_u_no _ _ (by omega), wv_u_no _ _ (by omega), wv_u_at]
      rfl
    · rw [wv_u_at]
  · intro pc P hP m lv st T1 N1 I1 L1 R1 nc ns hh
    have l401 : ts.length ≤ 401 := by
      rw [hts]
      exact wt_lex_len 400 0
    unfold dl_h465 at hP
    by_cases p32 : pc = 32
    · rw [if_pos p32] at hP
      cases hP
      subst p32
      obtain ⟨k, rfl, rfl, rfl, rfl, rfl, rfl, rfl, rfl, hk, rfl, hFr, h0, q1, q2, q3, q4, q5, q6⟩ := hh
      have ek := wi_on (n := k) (by omega)
      have ekn := wi_onn (n := k) (by omega)
      have e6 : ((Int8.ofInt 6).toInt32).toInt = 6 := rfl
      refine ⟨fun w => ?_, fun w => ?_⟩
      · rw [wi_le, ek, e6] at w
        have e : k = 6 := by omega
        subst e
        have hF2 : dl_Fr I (wv_u I1 460 5 (Int32.ofInt 0)) := fun c j z1 z2 => by
          rw [wv_u_no _ _ (by omega)]
          exact hFr c j z1 z2
        refine ⟨t, n, 0, rfl, dl_Fr_Y hY hF2, wv_u_at _ _ _ _, Nat.zero_le _, fun x l e2 I2 y1 y2 y3 y4 y5 y6 => ?_⟩
        have nf : ∀ c j, ¬ (c = 460 ∧ (3 ≤ j ∧ j ≤ 5)) → I2 c j = I1 c j := fun c j z => by
          rw [y6 c j (by omega), wv_u_no _ _ (by omega)]
        have hts2 : ts.drop 0 = x :: l := by
          rw [List.drop_zero, hts, ← y1]
          exact wt_lex_f ds_pg _ _ _ (by omega) (by omega)
        refine ⟨10 * (1000 - 0) + 9 - 0, by omega, Or.inl ⟨0, 0, 0, (0, none), [], [], rfl, rfl, rfl, rfl, rfl, rfl, rfl, rfl, by omega, fun _ => rfl, fun c j z1 z2 => (nf c j (by omega)).trans (hFr c j z1 z2), (nf _ _ (by omega)).trans h0, ⟨rfl, ⟨(nf _ _ (by omega)).trans q5, x, l, e2, hts2, y2, y3, y4, y5⟩, ⟨(nf _ _ (by omega)).trans q1, Nat.zero_le _, fun i x hx => absurd hx (by simp)⟩, ⟨(nf _ _ (by omega)).trans q2, (nf _ _ (by omega)).trans q3, (nf _ _ (by omega)).trans q4, Nat.zero_le _, fun j x hx => absurd hx (by simp)⟩, fun y hy => absurd hy (by simp), by omega, by omega, ⟨Nat.zero_le _, Nat.le_refl _, fun z => by omega⟩, Or.inl ⟨rfl, [], dh0_00 ts n, rfl, rfl, rfl, fun j hj => (nf _ _ (by omega)).trans (q6 j hj)⟩⟩, dl_k0, rfl⟩⟩
      rw [wi_le, ek, e6] at w
      refine ⟨_, wm_t hT rfl, pp_b (c := 6) (by omega) (by omega), by decide, ?_⟩
      rw [ekn]
      refine ⟨100000 - (k + 1), by omega, k + 1, by unfold dl_lv; rw [← wq_4s k]; rfl, rfl, rfl, rfl, rfl, rfl, rfl, rfl, by omega, rfl, fun c j z1 z2 => ?_, ?_, ?_, ?_, ?_, ?_, ?_, fun j hj => ?_⟩
      · rw [wv_u_no _ _ (by omega)]
        exact hFr c j z1 z2
      · rw [wv_u_no _ _ (by omega)]
        exact h0
      · rw [wv_u_no _ _ (by omega)]
        exact q1
      · rw [wv_u_no _ _ (by omega)]
        exact q2
      · rw [wv_u_no _ _ (by omega)]
        exact q3
      · rw [wv_u_no _ _ (by omega)]
        exact q4
      · rw [wv_u_no _ _ (by omega)]
        exact q5
      · by_cases c : j = k
        · subst c
          rw [wv_u_at]
        · rw [wv_u_no _ _ (by omega)]
          exact q6 j (by omega)
    rw [if_neg p32] at hP
    by_cases p62 : pc = 62
    · rw [if_pos p62] at hP
      cases hP
      subst p62
      rcases hh with hh | ⟨g, rfl, rfl, rfl, rfl, rfl, rfl, rfl, rfl, hFr, h0, hB, rfl⟩
      rotate_left
      · obtain ⟨z, z1, z2, z3⟩ := hB
        refine ⟨fun w => ?_, fun w => ?_⟩
        · exact ⟨1, by omega, g, rfl, rfl, rfl, rfl, rfl, rfl, rfl, rfl, hFr, h0, Or.inr ⟨z, z1, z2, z3⟩, rfl⟩
        · exfalso
          apply w
          show 0 ≤ I1 460 8
          rw [z1, wi_le, wi_on (by omega), wi_0]
          omega
      obtain ⟨g, A, B, s, nr, gs, rfl, rfl, rfl, rfl, rfl, rfl, rfl, rfl, hg, hAg, hFr, h0, hN, hk, rfl⟩ := hh
      have hNb := hN
      obtain ⟨a1, a2, a3, a4, a5, a6, a7, ⟨a8, a9, a10⟩, st⟩ := hNb
      obtain ⟨i4, ipl, i3, ivk, hsl⟩ := dm_tokZ hTs a2 a1
      have hlen := dl_len a2 a1
      have hcnt := dl_cnt htx hn4 hts a2 a1
      have i101 := a4.1
      have i102 := a4.2.1
      have hY1 := dl_Fr_Y hY hFr
      have hs4 : s.1 ≤ 401 := by omega
      have eA := wi_on (n := A) (by omega)
      have eg := wi_on (n := g) (by omega)
      refine ⟨fun w => ?_, fun w => ?_⟩
      · exact ((dm_Z_8 a2).mp w a1).elim
      refine ⟨fun w2 => ?_, fun w2 => ?_⟩
      · have w2 : I1 460 101 = 0 := w2
        have hA : A = 0 := by
          rw [i101] at w2
          have := wi_eq.mp w2
          rw [eA, wi_0] at this
          omega
        exact ⟨_, dl_m1 s.1 hs4, g, A, B, s, nr, gs, rfl, rfl, rfl, rfl, rfl, rfl, rfl, rfl, hg, hAg, hFr, h0, hN, dl_k1 hk (fun z => by omega), rfl⟩
      have w2 : ¬ I1 460 101 = 0 := w2
      have hA : 0 < A := by
        refine Nat.pos_of_ne_zero (fun z => w2 ?_)
        rw [i101, z]
        rfl
      refine ⟨fun w3 => ?_, fun w3 => ?_⟩
      · have w3 : I1 460 3 = (Int8.ofInt 50).toInt32 := w3
        rw [i3] at w3
        exact ⟨1, by omega, g, rfl, rfl, rfl, rfl, rfl, rfl, rfl, rfl, hFr, h0, Or.inl ⟨A, B, s, nr, gs, hN, hA, (dl_mc0 ivk).mp w3⟩, rfl⟩
      · have w3 : ¬ I1 460 3 = (Int8.ofInt 50).toInt32 := w3
        rw [i3] at w3
        exact ⟨_, dl_m1 s.1 hs4, g, A, B, s, nr, gs, rfl, rfl, rfl, rfl, rfl, rfl, rfl, rfl, hg, hAg, hFr, h0, hN, dl_k1 hk (fun _ z => w3 ((dl_mc0 ivk).mpr z)), rfl⟩
    rw [if_neg p62] at hP
    by_cases p85 : pc = 85
    · rw [if_pos p85] at hP
      cases hP
      subst p85
      obtain ⟨g, A, B, s, nr, gs, rfl, rfl, rfl, rfl, rfl, rfl, rfl, rfl, hg, hAg, hFr, h0, hN, hk, rfl⟩ := hh
      have hNb := hN
      obtain ⟨a1, a2, a3, a4, a5, a6, a7, ⟨a8, a9, a10⟩, st⟩ := hNb
      obtain ⟨i4, ipl, i3, ivk, hsl⟩ := dm_tokZ hTs a2 a1
      have hlen := dl_len a2 a1
      have hcnt := dl_cnt htx hn4 hts a2 a1
      have i101 := a4.1
      have i102 := a4.2.1
      have hY1 := dl_Fr_Y hY hFr
      have hs4 : s.1 ≤ 401 := by omega
      have eA := wi_on (n := A) (by omega)
      have eg := wi_on (n := g) (by omega)
      refine ⟨fun w => ?_, fun w => ?_⟩
      · have w : ¬ I1 460 3 = (Int8.ofInt 71).toInt32 := w
        rw [i3] at w
        exact ⟨_, dl_m2 s.1 hs4, g, A, B, s, nr, gs, rfl, rfl, rfl, rfl, rfl, rfl, rfl, rfl, hg, hAg, hFr, h0, hN, dl_k2 hk (fun z => w ((dl_mc33 ivk).mpr z.1)), rfl⟩
      have w : I1 460 3 = (Int8.ofInt 71).toInt32 := Decidable.not_not.mp w
      rw [i3] at w
      have w33 := (dl_mc33 ivk).mp w
      refine ⟨fun w2 => ?_, fun w2 => ?_⟩
      · have w2 : ¬ Int32.ofNat g = 0 := w2
        exact ⟨_, dl_m2 s.1 hs4, g, A, B, s, nr, gs, rfl, rfl, rfl, rfl, rfl, rfl, rfl, rfl, hg, hAg, hFr, h0, hN, dl_k2 hk (fun z => w2 (by rw [z.2]; rfl)), rfl⟩
      have w2 : Int32.ofNat g = 0 := Decidable.not_not.mp w2
      have hg0 : g = 0 := by
        have := wi_eq.mp w2
        rw [eg, wi_0] at this
        omega
      subst hg0
      refine ⟨t, ts, n, nr, s, A, rfl, hT, hY1, hTs, a2, a1, a3, by omega, i101, a6, fun I2 f1 f2 f3 => ?_⟩
      exact dl_back (by omega) (by omega) (by omega) (dl_Fr_I hFr f2) (dl_0_I h0 f2) (dl_in hN l401 w33 f1 f2 f3)
    rw [if_neg p85] at hP
    by_cases p105 : pc = 105
    · rw [if_pos p105] at hP
      cases hP
      subst p105
      obtain ⟨g, A, B, s, nr, gs, rfl, rfl, rfl, rfl, rfl, rfl, rfl, rfl, hg, hAg, hFr, h0, hN, hk, rfl⟩ := hh
      have hNb := hN
      obtain ⟨a1, a2, a3, a4, a5, a6, a7, ⟨a8, a9, a10⟩, st⟩ := hNb
      obtain ⟨i4, ipl, i3, ivk, hsl⟩ := dm_tokZ hTs a2 a1
      have hlen := dl_len a2 a1
      have hcnt := dl_cnt htx hn4 hts a2 a1
      have i101 := a4.1
      have i102 := a4.2.1
      have hY1 := dl_Fr_Y hY hFr
      have hs4 : s.1 ≤ 401 := by omega
      have eA := wi_on (n := A) (by omega)
      have eg := wi_on (n := g) (by omega)
      refine ⟨fun w => ?_, fun w => ?_⟩
      · have w : ¬ I1 460 3 = (Int8.ofInt 72).toInt32 := w
        rw [i3] at w
        exact ⟨_, dl_m3 s.1 hs4, g, A, B, s, nr, gs, rfl, rfl, rfl, rfl, rfl, rfl, rfl, rfl, hg, hAg, hFr, h0, hN, dl_k3 hk (fun z => w ((dl_mc34 ivk).mpr z.1)), rfl⟩
      have w : I1 460 3 = (Int8.ofInt 72).toInt32 := Decidable.not_not.mp w
      rw [i3] at w
      have w34 := (dl_mc34 ivk).mp w
      refine ⟨fun w2 => ?_, fun w2 => ?_⟩
      · have w2 : 2 ≤ (Int32.ofNat g).toInt := wi_le.mp w2
        rw [eg] at w2
        exact ⟨_, dl_m3 s.1 hs4, g, A, B, s, nr, gs, rfl, rfl, rfl, rfl, rfl, rfl, rfl, rfl, hg, hAg, hFr, h0, hN, dl_k3 hk (fun z => by omega), rfl⟩
      have w2 : ¬ 2 ≤ (Int32.ofNat g).toInt := fun z => w2 (wi_le.mpr z)
      rw [eg] at w2
      refine ⟨fun w3 => ?_, fun w3 => ?_⟩
      · have w3 : I1 460 101 ≤ 0 := w3
        rw [i101, wi_le, eA, wi_0] at w3
        exact ⟨_, dl_m3 s.1 hs4, g, A, B, s, nr, gs, rfl, rfl, rfl, rfl, rfl, rfl, rfl, rfl, hg, hAg, hFr, h0, hN, dl_k3 hk (fun z => by omega), rfl⟩
      have w3 : ¬ I1 460 101 ≤ 0 := w3
      rw [i101, wi_le, eA, wi_0] at w3
      refine ⟨t, ts, n, nr, s, A, B, rfl, hT, hY1, hTs, a2, a1, a3, by omega, i101, a6, i102, a7, fun I2 f1 f2 f3 => ?_⟩
      exact dl_back (g := 1) (by omega) (by omega) (by omega) (dl_Fr_L hFr a7 f2) (dl_0_L h0 a7 f2) (dl_la hN l401 (by omega) (by omega) w34 f1 f2 f3)
    rw [if_neg p105] at hP
    by_cases p135 : pc = 135
    · rw [if_pos p135] at hP
      cases hP
      subst p135
      obtain ⟨g, A, B, s, nr, gs, rfl, rfl, rfl, rfl, rfl, rfl, rfl, rfl, hg, hAg, hFr, h0, hN, hk, rfl⟩ := hh
      have hNb := hN
      obtain ⟨a1, a2, a3, a4, a5, a6, a7, ⟨a8, a9, a10⟩, st⟩ := hNb
      obtain ⟨i4, ipl, i3, ivk, hsl⟩ := dm_tokZ hTs a2 a1
      have hlen := dl_len a2 a1
      have hcnt := dl_cnt htx hn4 hts a2 a1
      have i101 := a4.1
      have i102 := a4.2.1
      have hY1 := dl_Fr_Y hY hFr
      have hs4 : s.1 ≤ 401 := by omega
      have eA := wi_on (n := A) (by omega)
      have eg := wi_on (n := g) (by omega)
      refine ⟨fun w3 => ?_, fun w3 => ?_⟩
      · have w3 : I1 460 101 ≤ 0 := w3
        rw [i101, wi_le, eA, wi_0] at w3
        exact ⟨_, dl_m4 s.1 hs4, g, A, B, s, nr, gs, rfl, rfl, rfl, rfl, rfl, rfl, rfl, rfl, hg, hAg, hFr, h0, hN, dl_k4 hk (fun z => by omega), rfl⟩
      have w3 : ¬ I1 460 101 ≤ 0 := w3
      rw [i101, wi_le, eA, wi_0] at w3
      have hA : 0 < A := by omega
      refine ⟨fun w => ?_, fun w => ?_⟩
      · have w : ¬ I1 460 3 = (Int8.ofInt 73).toInt32 := w
        rw [i3] at w
        exact ⟨_, dl_m4 s.1 hs4, g, A, B, s, nr, gs, rfl, rfl, rfl, rfl, rfl, rfl, rfl, rfl, hg, hAg, hFr, h0, hN, dl_k4 hk (fun z => w ((dl_mc35 ivk).mpr z.2)), rfl⟩
      have w : I1 460 3 = (Int8.ofInt 73).toInt32 := Decidable.not_not.mp w
      rw [i3] at w
      have wk := (dl_mc35 ivk).mp w
      have hs42 : s.1 < 402 := by omega
      have hm1 : 10 * (1000 - s.1) + 1 ≤ 10 * (1000 - s.1) + 9 - 3 := by omega
      have hN2 := dl_2 hN l401 hA (fun _ => Or.inl (by rw [wk]; decide)) (fun _ => Or.inl (by rw [wk]; decide))
      refine ⟨t, ts, n, nr, A, B, (s, gs), rfl, ⟨hT, hY1, hTs, a6, a7, a2, a1, a4, a3, a10 hA, l401, a5⟩, by omega, fun v x2 I2 f1 f2 f3 f4 f5 => ?_⟩
      exact dl_back (g := 2) (Nat.le_refl _) hs42 hm1 (dl_Fr_W hFr f3) (dl_0_W h0 f3) (dl_wr2 (x := (s, gs)) htx hn4 hts hN2 wk f1 f2 f3 f4 f5)
    rw [if_neg p135] at hP
    by_cases p160 : pc = 160
    · rw [if_pos p160] at hP
      cases hP
      subst p160
      obtain ⟨g, A, B, s, nr, gs, rfl, rfl, rfl, rfl, rfl, rfl, rfl, rfl, hg, hAg, hFr, h0, hN, hk, rfl⟩ := hh
      have hNb := hN
      obtain ⟨a1, a2, a3, a4, a5, a6, a7, ⟨a8, a9, a10⟩, st⟩ := hNb
      obtain ⟨i4, ipl, i3, ivk, hsl⟩ := dm_tokZ hTs a2 a1
      have hlen := dl_len a2 a1
      have hcnt := dl_cnt htx hn4 hts a2 a1
      have i101 := a4.1
      have i102 := a4.2.1
      have hY1 := dl_Fr_Y hY hFr
      have hs4 : s.1 ≤ 401 := by omega
      have eA := wi_on (n := A) (by omega)
      have eg := wi_on (n := g) (by omega)
      refine ⟨fun w3 => ?_, fun w3 => ?_⟩
      · have w3 : I1 460 101 ≤ 0 := w3
        rw [i101, wi_le, eA, wi_0] at w3
        exact ⟨_, dl_m5 s.1 hs4, g, A, B, s, nr, gs, rfl, rfl, rfl, rfl, rfl, rfl, rfl, rfl, hg, hAg, hFr, h0, hN, dl_k5 hk (fun z => by omega), rfl⟩
      have w3 : ¬ I1 460 101 ≤ 0 := w3
      rw [i101, wi_le, eA, wi_0] at w3
      have hA : 0 < A := by omega
      refine ⟨fun w => ?_, fun w => ?_⟩
      · have w : ¬ I1 460 3 = (Int8.ofInt 12).toInt32 := w
        rw [i3] at w
        exact ⟨_, dl_m5 s.1 hs4, g, A, B, s, nr, gs, rfl, rfl, rfl, rfl, rfl, rfl, rfl, rfl, hg, hAg, hFr, h0, hN, dl_k5 hk (fun z => w ((dl_mc28 ivk).mpr z.2)), rfl⟩
      have w : I1 460 3 = (Int8.ofInt 12).toInt32 := Decidable.not_not.mp w
      rw [i3] at w
      have wk := (dl_mc28 ivk).mp w
      have hs42 : s.1 < 402 := by omega
      have hm1 : 10 * (1000 - s.1) + 1 ≤ 10 * (1000 - s.1) + 9 - 4 := by omega
      have hN2 := dl_2 hN l401 hA (fun _ => Or.inl (by rw [wk]; decide)) (fun _ => Or.inl (by rw [wk]; decide))
      refine ⟨t, ts, n, nr, A, B, (s, gs), rfl, ⟨hT, hY1, hTs, a6, a7, a2, a1, a4, a3, a10 hA, l401, a5⟩, wk, fun v x2 I2 f1 f2 f3 f4 f5 => ?_⟩
      exact dl_back (g := 2) (Nat.le_refl _) hs42 hm1 (dl_Fr_X2 hFr f3) (dl_0_X2 h0 f3) (dl_ne2 (x := (s, gs)) hN2 wk f1 f2 f3 f4 f5)
    rw [if_neg p160] at hP
    by_cases p185 : pc = 185
    · rw [if_pos p185] at hP
      cases hP
      subst p185
      obtain ⟨g, A, B, s, nr, gs, rfl, rfl, rfl, rfl, rfl, rfl, rfl, rfl, hg, hAg, hFr, h0, hN, hk, rfl⟩ := hh
      have hNb := hN
      obtain ⟨a1, a2, a3, a4, a5, a6, a7, ⟨a8, a9, a10⟩, st⟩ := hNb
      obtain ⟨i4, ipl, i3, ivk, hsl⟩ := dm_tokZ hTs a2 a1
      have hlen := dl_len a2 a1
      have hcnt := dl_cnt htx hn4 hts a2 a1
      have i101 := a4.1
      have i102 := a4.2.1
      have hY1 := dl_Fr_Y hY hFr
      have hs4 : s.1 ≤ 401 := by omega
      have eA := wi_on (n := A) (by omega)
      have eg := wi_on (n := g) (by omega)
      refine ⟨fun w3 => ?_, fun w3 => ?_⟩
      · have w3 : I1 460 101 ≤ 0 := w3
        rw [i101, wi_le, eA, wi_0] at w3
        exact ⟨_, dl_m6 s.1 hs4, g, A, B, s, nr, gs, rfl, rfl, rfl, rfl, rfl, rfl, rfl, rfl, hg, hAg, hFr, h0, hN, dl_k6 hk (fun z => by omega), rfl⟩
      have w3 : ¬ I1 460 101 ≤ 0 := w3
      rw [i101, wi_le, eA, wi_0] at w3
      have hA : 0 < A := by omega
      refine ⟨fun w => ?_, fun w => ?_⟩
      · have w : ¬ I1 460 3 = (Int8.ofInt 74).toInt32 := w
        rw [i3] at w
        exact ⟨_, dl_m6 s.1 hs4, g, A, B, s, nr, gs, rfl, rfl, rfl, rfl, rfl, rfl, rfl, rfl, hg, hAg, hFr, h0, hN, dl_k6 hk (fun z => w ((dl_mc36 ivk).mpr z.2)), rfl⟩
      have w : I1 460 3 = (Int8.ofInt 74).toInt32 := Decidable.not_not.mp w
      rw [i3] at w
      have wk := (dl_mc36 ivk).mp w
      have hs42 : s.1 < 402 := by omega
      have hm1 : 10 * (1000 - s.1) + 1 ≤ 10 * (1000 - s.1) + 9 - 5 := by omega
      have hN2 := dl_2 hN l401 hA (fun _ => Or.inl (by rw [wk]; decide)) (fun _ => Or.inl (by rw [wk]; decide))
      refine ⟨t, ts, n, nr, A, B, (s, gs), rfl, ⟨hT, hY1, hTs, a6, a7, a2, a1, a4, a3, a10 hA, l401, a5⟩, wk, fun v x2 I2 f1 f2 f3 f4 f5 => ?_⟩
      exact dl_back (g := 2) (Nat.le_refl _) hs42 hm1 (dl_Fr_X4 hFr f3) (dl_0_X4 h0 f3) (dl_si2 (x := (s, gs)) hN2 wk f1 f2 f3 f4 f5)
    rw [if_neg p185] at hP
    by_cases p210 : pc = 210
    · rw [if_pos p210] at hP
      cases hP
      subst p210
      obtain ⟨g, A, B, s, nr, gs, rfl, rfl, rfl, rfl, rfl, rfl, rfl, rfl, hg, hAg, hFr, h0, hN, hk, rfl⟩ := hh
      have hNb := hN
      obtain ⟨a1, a2, a3, a4, a5, a6, a7, ⟨a8, a9, a10⟩, st⟩ := hNb
      obtain ⟨i4, ipl, i3, ivk, hsl⟩ := dm_tokZ hTs a2 a1
      have hlen := dl_len a2 a1
      have hcnt := dl_cnt htx hn4 hts a2 a1
      have i101 := a4.1
      have i102 := a4.2.1
      have hY1 := dl_Fr_Y hY hFr
      have hs4 : s.1 ≤ 401 := by omega
      have eA := wi_on (n := A) (by omega)
      have eg := wi_on (n := g) (by omega)
      refine ⟨_, rfl, ?_⟩
      have bad := dl_bad hN l401 (hk.1 (by omega)) (fun z => Or.inl (fun y => hk.2.1 (by omega) ⟨y, z⟩)) (fun z1 z2 => Or.inl (fun y => hk.2.2.1 (by omega) ⟨y, z2, z1⟩)) (fun z y => ?_) hAg
      · have e8 : I1 460 8 < 0 := Int32.not_le.mp (fun z => (dm_Z_8 a2).mp z a1)
        refine dl_back hg (by omega) (by omega) (s := s) (fun c j z1 z2 => ?_) ?_ (Or.inr ⟨tk_place ts n s.1, ?_, ipl, bad⟩)
        · unfold wp_bad
          rw [wv_u_no _ _ (by omega)]
          exact hFr c j z1 z2
        · unfold wp_bad
          rw [wv_u_no _ _ (by omega)]
          exact h0
        · unfold wp_bad
          rw [wv_u_at, if_pos e8]
          exact i4
      · have y := of_decide_eq_true y
        rcases y with y | y | y
        · exact hk.2.2.2.1 (by omega) ⟨z, y⟩
        · exact hk.2.2.2.2.1 (by omega) ⟨z, y⟩
        · exact hk.2.2.2.2.2 (by omega) ⟨z, y⟩
    rw [if_neg p210] at hP
    by_cases p221 : pc = 221
    · rw [if_pos p221] at hP
      cases hP
      subst p221
      obtain ⟨g, rfl, rfl, rfl, rfl, rfl, rfl, rfl, rfl, hFr, h0, hd, rfl⟩ := hh
      have u8 : wv_u I1 460 2 (Int32.ofInt 0) 460 8 = I1 460 8 := wv_u_no _ _ (by omega)
      have hF3 : dl_FF I (wv_u I1 460 2 (Int32.ofInt 0)) := fun c j z1 z2 z3 => by
        rw [wv_u_no _ _ (by omega)]
        exact hFr c j (by omega) z3
      rcases hd with ⟨A, B, s, nr, gs, hN, hA, hnow⟩ | ⟨z, z1, z2, z3⟩
      · have hN2 := dl_2 hN l401 hA (fun _ => Or.inl (by rw [hnow]; decide)) (fun _ => Or.inl (by rw [hnow]; decide))
        obtain ⟨a1, a2, a3, a4, a5, a6, a7, a8, st⟩ := hN2
        rcases st with ⟨y, _⟩ | ⟨y, _⟩ | ⟨_, _, nx, sg, h1, h3, h4⟩
        · omega
        · omega
        have ez := dh2_f h1 (Or.inl hnow)
        have eA := h1.1
        have eB := h1.2.1
        have e8 : I1 460 8 < 0 := Int32.not_le.mp (fun z => (dm_Z_8 a2).mp z a1)
        have ef : (dsZ ts n).1.1.2 = none := by
          rw [ez]
          exact a1
        refine ⟨fun w => ?_, fun w => ?_⟩
        rotate_left
        · exact (w (by rw [u8]; exact e8)).elim
        refine ⟨A, B, gs.length, rfl, hT, a6, a7, a4.2.2.2.1, ?_, ?_, ?_, fun j hj => ?_, fun I2 t1 t66 => ?_⟩
        · rw [wv_u_no _ _ (by omega)]
          exact a4.1
        · rw [wv_u_no _ _ (by omega)]
          exact a4.2.1
        · rw [wv_u_no _ _ (by omega)]
          exact a4.2.2.1
        · rw [wv_u_no _ _ (by omega), (h3 j hj).2]
          unfold dsFs
          split
          · rfl
          · rfl
        · obtain ⟨t2, t3, t4, t5, t6, t7, t8⟩ := t1
          have tf : ∀ c j, ¬ (c = 460 ∧ ((56 ≤ j ∧ j ≤ 58) ∨ j = 66)) → ¬ (496 ≤ c ∧ c ≤ 500) → I2 c j = wv_u I1 460 2 (Int32.ofInt 0) c j := fun c j y1 y2 => t2 c j (by omega) y2
          have hq := h I2 (fun c j y1 y2 y3 => (tf c j (by omega) y2).trans (hF3 c j y1 y2 y3)) ((tf _ _ (by omega) (by omega)).trans ((wv_u_no _ _ (by omega)).trans h0)) ((tf _ _ (by omega) (by omega)).trans (wv_u_at _ _ _ _)) (fun _ => ⟨by rw [eA]; exact a6, by rw [eB]; exact a7, by rw [ez]; exact a4.2.2.2.1, by rw [eA]; exact t3, by rw [eB]; exact t4, by rw [ez]; exact t5, t66, fun j x hx => ?_, fun j hj => ?_, fun j hj => ?_⟩) (fun y => (y ef).elim)
          · rw [ef] at hq
            exact hq
          · rw [ez] at hx
            obtain ⟨y1, y2⟩ := a4.2.2.2.2 j x hx
            have hj := (List.getElem?_eq_some_iff.mp hx).1
            obtain ⟨u1, u2⟩ := t6 j hj
            rw [u1, u2, wv_u_no _ _ (by omega), wv_u_no _ _ (by omega)]
            exact ⟨y1, y2⟩
          · rw [eB] at hj
            obtain ⟨u1, u2⟩ := t7 j hj
            rw [u1, u2, wv_u_no _ _ (by omega), wv_u_no _ _ (by omega), ez]
            exact h3 j hj
          · rw [t8 j hj, wv_u_no _ _ (by omega), ez]
            exact h4 j hj
      · refine ⟨fun w => ?_, fun w => ?_⟩
        · exfalso
          have w : wv_u I1 460 2 (Int32.ofInt 0) 460 8 < 0 := w
          rw [u8, z1, wi_lt, wi_on (by omega), wi_0] at w
          omega
        · show q (.inl (some (.int (wv_u I1 460 2 (Int32.ofInt 0) 460 8)))) _ _ (wv_u I1 460 2 (Int32.ofInt 0)) _ _ 0 0
          rw [u8, z1]
          have hq := h _ hF3 ((wv_u_no _ _ (by omega)).trans h0) (wv_u_at _ _ _ _) (fun y => by rw [z3] at y; cases y) (fun _ c j y => ?_)
          · rw [z3] at hq
            exact hq
          · rw [wv_u_no _ _ (by omega)]
            exact hFr c j (by omega) (by omega)
    rw [if_neg p221] at hP
    cases hP
