/-! ===== the class weaves: room, steps, letters of steps ===== -/
theorem wi_sn {a b : Nat} (h : b ≤ a) (ha : a < 2147483648) : Int32.ofNat a - Int32.ofNat b = Int32.ofNat (a - b) := by
  refine Int32.toInt_inj.mp ?_
  rw [wi_sub, wi_on ha, wi_on (by omega), wi_on (by omega), wr_id (by omega) (by omega)]
  omega
theorem wi_s1 {a : Nat} (h : 1 ≤ a) (ha : a < 2147483648) : Int32.ofNat a - Int32.ofInt 1 = Int32.ofNat (a - 1) := wi_sn h ha
theorem wi_s2 {a : Nat} (h : 2 ≤ a) (ha : a < 2147483648) : Int32.ofNat a - Int32.ofInt 2 = Int32.ofNat (a - 2) := wi_sn h ha
theorem wi_dn {a b : Nat} (ha : a < 2147483648) (hb : b < 2147483648) : Int32.ofNat a / Int32.ofNat b = Int32.ofNat (a / b) := by
  refine Int32.toInt_inj.mp ?_
  have h1 : a / b ≤ a := Nat.div_le_self a b
  rw [Int32.toInt_div, wi_on ha, wi_on hb, wi_on (by omega), ← Int.ofNat_tdiv]
  generalize a / b = z at h1
  exact Int.bmod_eq_of_le (by omega) (by omega)
theorem wi_rn {a b : Nat} (ha : a < 2147483648) (hb : b < 2147483648) : Int32.ofNat a - Int32.ofNat a / Int32.ofNat b * Int32.ofNat b = Int32.ofNat (a % b) := by
  have h1 : a / b * b ≤ a := Nat.div_mul_le_self a b
  rw [wi_dn ha hb, ← Int32.ofNat_mul, wi_sn h1 ha]
  congr 1
  have := Nat.div_add_mod a b
  rw [Nat.mul_comm] at this
  omega
theorem wb_i_0 {b : Bool} : wb_i b = 0 ↔ b = false := by
  cases b
  · exact ⟨fun _ => rfl, fun _ => rfl⟩
  · exact ⟨fun h => absurd h (by decide), fun h => by cases h⟩
theorem wb_i_1 {b : Bool} : ¬ wb_i b = 0 ↔ b = true := by
  rw [wb_i_0]
  cases b
  · exact ⟨fun h => (h rfl).elim, fun h => by cases h⟩
  · exact ⟨fun _ => rfl, fun _ h => by cases h⟩
theorem wb_i_2 {b : Bool} : ¬ ¬ wb_i b = 0 ↔ b = false := by
  rw [wb_i_1]
  cases b
  · exact ⟨fun _ => rfl, fun _ h => by cases h⟩
  · exact ⟨fun h => (h rfl).elim, fun h => by cases h⟩
/-- new states, empty -/
def ww_zr (L L1 : Nat → Nat → Int64) (u m : Nat) : Prop := (∀ j, u < j → j ≤ u + m → L1 11 j = 0 ∧ L1 13 j = 0) ∧ ∀ c j, ¬ ((c = 11 ∨ c = 13) ∧ u < j ∧ j ≤ u + m) → L1 c j = L c j
def ww_h136 (u mo : Nat) (fl : Bool) (T : wv_T) (N : Nat) (I : Nat → Nat → Int32) (L : Nat → Nat → Int64) (R : Nat → Nat → Option Nat) : Nat → Option (Nat → wv_P) := fun pc =>
  if pc = 27 then some (fun mm lv st T1 N1 I1 L1 R1 nc ns => ∃ k : Nat, lv = [some (.ref 10), some (.int (Int32.ofNat mo)), some (.int (Int32.ofNat (k + 1))), none, none] ∧ st = [] ∧ T1 = T ∧ N1 = N ∧ I1 = I ∧ R1 = R ∧ nc = 0 ∧ ns = 0 ∧ k ≤ mo ∧ mm = mo - k ∧ (fl = false ∧ u + mo < 41) ∧ ww_zr L L1 u k)
  else none
def ww_c136 : wv_c1 := fun as T N I L R q => ∃ (u mo : Nat) (fl : Bool), as = [.ref 10, .int (Int32.ofNat mo)] ∧ wm_T T ∧ I 10 10 = wb_i fl ∧ mo ≤ 4000 ∧ (fl = false → I 10 9 = Int32.ofNat u ∧ u ≤ 40) ∧ ((fl = true ∨ 41 ≤ u + mo) → q (.inl (some (.int 0))) T N (wv_u I 10 10 1) L R 0 0) ∧ ((fl = false ∧ u + mo < 41) → ∀ L1, ww_zr L L1 u mo → q (.inl (some (.int 1))) T N (wv_u I 10 9 (Int32.ofNat (u + mo))) L1 R 0 0)
set_option maxRecDepth 100000 in
theorem wM_136 : ∃ cb ci np, pt_mt 136 = some (5, cb, 3, false, some .boolean, ci, np) := ⟨_, _, _, rfl⟩
set_option maxRecDepth 100000 in
set_option maxHeartbeats 4000000 in
theorem ww_takeRoom {sc : pt_Sc} {d : Nat} : wv_C wm_fx sc (d + 1) 136 ww_c136 := by
  rintro as T N I L R q ⟨u, mo, fl, rfl, hT, hfl, hm4, hu, hb, hg⟩ w0 HR
  obtain ⟨cb, ci, np, hm⟩ := wM_136
  refine wv_meth (hh := none) rfl (sp := fun _ _ _ _ _ _ _ _ => False) (hd := ww_h136 u mo fl T N I L R) (n := 300) (n1 := 300) hm zc_136 rfl (fun k as T N I L R q h => by cases h) ?_ ?_ HR
  · refine ⟨fun h1 => ?_, fun h1 => ?_⟩
    · rw [hfl, wb_i_1] at h1
      exact ⟨⟨rfl, rfl⟩, ⟨rfl, rfl⟩, hb (Or.inl h1)⟩
    · rw [hfl, wb_i_2] at h1
      obtain ⟨u1, u2⟩ := hu h1
      have e : (I 10 9 + Int32.ofNat mo).toInt = u + mo := by rw [u1, wi_ona, wi_on (by omega)]; omega
      have e41 : ((Int8.ofInt 41).toInt32).toInt = 41 := rfl
      refine ⟨fun h2 => ?_, fun h2 => ?_⟩
      · rw [wi_lt, e, e41] at h2
        exact ⟨mo, 0, rfl, rfl, rfl, rfl, rfl, rfl, rfl, rfl, Nat.zero_le _, rfl, ⟨h1, by omega⟩, ⟨fun j a b => by omega, fun _ _ _ => rfl⟩⟩
      · rw [wi_lt, e, e41] at h2
        exact ⟨⟨rfl, rfl⟩, ⟨rfl, rfl⟩, hb (Or.inr (by omega))⟩
  · intro pc P hP m lv st T1 N1 I1 L1 R1 nc ns hh
    unfold ww_h136 at hP
    split at hP
    · cases hP
      rename_i hpc
      subst hpc
      obtain ⟨k, rfl, rfl, rfl, rfl, rfl, rfl, rfl, rfl, hk, hmm, hf2, hz⟩ := hh
      have ek := wi_on (n := k + 1) (by omega)
      have em := wi_on (n := mo) (by omega)
      obtain ⟨z1, z2⟩ := hz
      have hu2 : fl = false ∧ u + mo < 41 → I1 10 9 = Int32.ofNat u ∧ u ≤ 40 := fun z => hu z.1
      refine ⟨fun h1 => ?_, fun h1 => ?_⟩
      · have e : k = mo := by rw [wi_lt, ek, em] at h1; omega
        subst e
        have hX : ∀ x, x = Int32.ofNat (u + k) → q (.inl (some (.int 1))) T1 N1 (wv_u I1 10 9 x) L1 R1 0 0 := by
          rintro x rfl
          exact hg hf2 L1 ⟨z1, z2⟩
        exact ⟨⟨rfl, rfl⟩, hX _ (by rw [(hu2 hf2).1, wi_ona])⟩
      · have hlt : k < mo := by rw [wi_lt, ek, em] at h1; omega
        have ei : I1 10 9 + Int32.ofNat (k + 1) = Int32.ofNat (u + (k + 1)) := by rw [(hu2 hf2).1, wi_ona]
        have e2 := wi_on (n := u + (k + 1)) (by omega)
        have e3 := wi_onn (n := u + (k + 1)) (by omega)
        have bd : 0 ≤ I1 10 9 + Int32.ofNat (k + 1) ∧ (I1 10 9 + Int32.ofNat (k + 1)).toInt < (41 : Nat) := by rw [ei, wi_le, e2, wi_0]; omega
        refine ⟨_, wm_t hT rfl, bd, by decide, _, wm_t hT rfl, bd, by decide, ?_⟩
        refine ⟨mo - (k + 1), by omega, k + 1, by rw [← wq_4s (k + 1)]; rfl, rfl, rfl, rfl, rfl, rfl, rfl, rfl, by omega, rfl, ?_⟩
        rw [ei, e3]
        refine ⟨hf2, fun j a b => ?_, fun c j a => ?_⟩
        · by_cases ej : j = u + (k + 1)
          · subst ej
            exact ⟨by rw [wv_u_no _ _ (by omega), wv_u_at]; rfl, by rw [wv_u_at]; rfl⟩
          · rw [wv_u_no _ _ (by omega), wv_u_no _ _ (by omega), wv_u_no _ _ (by omega), wv_u_no _ _ (by omega)]
            exact z1 j a (by omega)
        · rw [wv_u_no _ _ (by omega), wv_u_no _ _ (by omega)]
          exact z2 c j (by omega)
    · cases hP
def ww_C (u : Nat) (en be : Int64) (s t : Nat) : Prop := (1 ≤ s ∧ s ≤ u ∧ nb en s = true) ∧ (1 ≤ t ∧ t ≤ u ∧ nb be t = true)
def ww_h140 (u : Nat) (en be : Int64) (T : wv_T) (N : Nat) (I : Nat → Nat → Int32) (L : Nat → Nat → Int64) (R : Nat → Nat → Option Nat) : Nat → Option (Nat → wv_P) := fun pc =>
  if pc = 3 then some (fun mm lv st T1 N1 I1 L1 R1 nc ns => ∃ (k : Nat) (x : Option Value), lv = [some (.ref 10), some (.long en), none, some (.long be), none, some (.int (Int32.ofNat (k + 1))), x, none, none, none, none, none] ∧ st = [] ∧ T1 = T ∧ N1 = N ∧ I1 = I ∧ R1 = R ∧ nc = 0 ∧ ns = 0 ∧ k ≤ u ∧ mm = 100 * (u - k) ∧ ww_stp L L1 (fun s t => s ≤ k ∧ ww_C u en be s t) (fun _ t => L 13 t))
  else if pc = 27 then some (fun mm lv st T1 N1 I1 L1 R1 nc ns => ∃ k j : Nat, lv = [some (.ref 10), some (.long en), none, some (.long be), none, some (.int (Int32.ofNat (k + 1))), some (.int (Int32.ofNat (j + 1))), none, none, none, none, none] ∧ st = [] ∧ T1 = T ∧ N1 = N ∧ I1 = I ∧ R1 = R ∧ nc = 0 ∧ ns = 0 ∧ k < u ∧ j ≤ u ∧ mm = 100 * (u - k) - 1 - j ∧ nb en (k + 1) = true ∧ ww_stp L L1 (fun s t => (s ≤ k ∨ (s = k + 1 ∧ t ≤ j)) ∧ ww_C u en be s t) (fun _ t => L 13 t))
  else none
def ww_c140 : wv_c1 := fun as T N I L R q => ∃ (u : Nat) (en be : Int64), as = [.ref 10, .long en, .long be] ∧ wm_T T ∧ I 10 9 = Int32.ofNat u ∧ u ≤ 40 ∧ ∀ L1, ww_stp L L1 (ww_C u en be) (fun _ t => L 13 t) → q (.inl none) T N I L1 R 0 0
set_option maxRecDepth 100000 in
theorem wM_140 : ∃ cb ci np, pt_mt 140 = some (5, cb, 7, false, none, ci, np) := ⟨_, _, _, rfl⟩
set_option maxRecDepth 100000 in
set_option maxHeartbeats 4000000 in
theorem ww_addSteps {sc : pt_Sc} {d : Nat} : wv_C wm_fx sc (d + 1 + 1) 140 ww_c140 := by
  rintro as T N I L R q ⟨u, en, be, rfl, hT, h9, hu, h⟩ w0 HR
  obtain ⟨cb, ci, np, hm⟩ := wM_140
  have hc141 : wv_C wm_fx sc (d + 1) 141 ww_c141 := wv_C_deep (by omega) (ww_isIn (d := d))
  have hc142 : wv_C wm_fx sc (d + 1) 142 ww_c142 := wv_C_deep (by omega) (ww_addStep (d := d))
  refine wv_meth (hh := none) rfl (sp := wv_sp [(141, ww_c141), (142, ww_c142)]) (hd := ww_h140 u en be T N I L R) (n := 300) (n1 := 300) hm zc_140 rfl (wv_sp_ok (fun q hq => by
    rcases List.mem_cons.mp hq with h | h
    · rw [h]; exact hc141
    rw [List.mem_singleton.mp h]; exact hc142)) ?_ ?_ HR
  · exact ⟨100 * u, 0, _, rfl, rfl, rfl, rfl, rfl, rfl, rfl, rfl, Nat.zero_le _, rfl, ww_stp_0 _ _ (fun s t _ _ z => by have := z.1; have := z.2.1.1; omega)⟩
  · intro pc P hP m lv st T1 N1 I1 L1 R1 nc ns hh
    unfold ww_h140 at hP
    split at hP
    · cases hP
      rename_i hpc
      subst hpc
      obtain ⟨k, x, rfl, rfl, rfl, rfl, rfl, rfl, rfl, rfl, hk, hmm, hs⟩ := hh
      have ek := wi_on (n := k + 1) (by omega)
      have eu := wi_on (n := u) (by omega)
      refine ⟨fun h1 => ?_, fun h1 => ?_⟩
      · have e : k = u := by rw [h9, wi_lt, ek, eu] at h1; omega
        subst e
        exact h L1 (ww_stp_c hs (fun s t _ _ => ⟨fun z => ⟨z.1.2.1, z⟩, fun z => z.2⟩) (fun _ _ _ _ _ => rfl))
      · have hlt : k < u := by rw [h9, wi_lt, ek, eu] at h1; omega
        refine ⟨en, k + 1, rfl, by omega, ?_⟩
        refine ⟨fun h2 => ?_, fun h2 => ?_⟩
        · have hb := wb_i_1.mp h2
          exact ⟨100 * (u - k) - 1, by omega, k, 0, rfl, rfl, rfl, rfl, rfl, rfl, rfl, rfl, hlt, Nat.zero_le _, by omega, hb, ww_stp_c hs (fun s t _ _ => ⟨fun z => ⟨by have := z.2.2.1; omega, z.2⟩, fun z => ⟨Or.inl z.1, z.2⟩⟩) (fun _ _ _ _ _ => rfl)⟩
        · have hb := wb_i_2.mp h2
          refine ⟨100 * (u - (k + 1)), by omega, k + 1, x, by rw [← wq_4s (k + 1)]; rfl, rfl, rfl, rfl, rfl, rfl, rfl, rfl, by omega, rfl, ww_stp_c hs (fun s t _ _ => ⟨fun z => ⟨?_, z.2⟩, fun z => ⟨by omega, z.2⟩⟩) (fun _ _ _ _ _ => rfl)⟩
          by_cases e : s = k + 1
          · have := z.2.1.2.2
            rw [e, hb] at this
            cases this
          · omega
    · split at hP
      · cases hP
        rename_i hpc
        subst hpc
        obtain ⟨k, j, rfl, rfl, rfl, rfl, rfl, rfl, rfl, rfl, hk, hj, hmm, hb, hs⟩ := hh
        have ej := wi_on (n := j + 1) (by omega)
        have ejn := wi_onn (n := j + 1) (by omega)
        have eu := wi_on (n := u) (by omega)
        refine ⟨fun h1 => ?_, fun h1 => ?_⟩
        · have e : j = u := by rw [h9, wi_lt, ej, eu] at h1; omega
          subst e
          exact ⟨100 * (j - (k + 1)), by omega, k + 1, _, by rw [← wq_4s (k + 1)]; rfl, rfl, rfl, rfl, rfl, rfl, rfl, rfl, by omega, rfl, ww_stp_c hs (fun s t _ _ => ⟨fun z => ⟨by have := z.2.2.2.1; omega, z.2⟩, fun z => ⟨by omega, z.2⟩⟩) (fun _ _ _ _ _ => rfl)⟩
        · have hlt : j < u := by rw [h9, wi_lt, ej, eu] at h1; omega
          refine ⟨be, j + 1, rfl, by omega, ?_⟩
          refine ⟨fun h2 => ?_, fun h2 => ?_⟩
          · have hb2 := wb_i_0.mp h2
            refine ⟨100 * (u - k) - 1 - (j + 1), by omega, k, j + 1, by rw [← wq_4s (j + 1)]; rfl, rfl, rfl, rfl, rfl, rfl, rfl, rfl, hk, by omega, rfl, hb, ww_stp_c hs (fun s t _ _ => ⟨fun z => ⟨?_, z.2⟩, fun z => ⟨by omega, z.2⟩⟩) (fun _ _ _ _ _ => rfl)⟩
            by_cases e : t = j + 1
            · have := z.2.2.2.2
              rw [e, hb2] at this
              cases this
            · omega
          · have hb2 := wb_i_1.mp h2
            refine ⟨_, wm_t hT rfl, ⟨by rw [wi_le, ej, wi_0]; omega, by rw [ej]; omega⟩, ?_⟩
            rw [ejn]
            refine ⟨k + 1, j + 1, _, rfl, hT, by omega, by omega, ?_⟩
            refine ⟨100 * (u - k) - 1 - (j + 1), by omega, k, j + 1, by rw [← wq_4s (j + 1)]; rfl, rfl, rfl, rfl, rfl, rfl, rfl, rfl, hk, by omega, rfl, hb, ?_⟩
            refine ww_stp_1 hs (by omega) (by omega) (fun z => by omega) (hs.2.2 _ _ (by decide) (by decide)) (fun s t _ _ => ⟨fun z => ?_, fun z => ?_⟩)
            · by_cases e : s = k + 1 ∧ t = j + 1
              · exact Or.inr e
              · exact Or.inl ⟨by omega, z.2⟩
            · rcases z with z | ⟨rfl, rfl⟩
              · exact ⟨by omega, z.2⟩
              · exact ⟨by omega, ⟨by omega, by omega, hb⟩, by omega, by omega, hb2⟩
      · cases hP
