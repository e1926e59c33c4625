/-! ===== the reference: ahead and reach ===== -/
/-- only the other round and the set change -/
def mr_Fo (L L1 : Nat → Nat → Int64) : Prop := ∀ c j, ¬ c = 494 → ¬ (c = 460 ∧ (j = 53 ∨ j = 54)) → L1 c j = L c j
theorem mr_Fo_r (L : Nat → Nat → Int64) : mr_Fo L L := fun _ _ _ _ => rfl
theorem mr_Fo_s {A B C : Nat → Nat → Int64} (h : mr_Fo A B) (g : mr_Fs B C) : mr_Fo A C := fun c j a d => (g c j d).trans (h c j a d)
theorem mr_Fo_e {A B : Nat → Nat → Int64} (g : mr_Fo A B) {c b k x : Nat} (h : ¬ c = 494) (h2 : ¬ c = 460) : mr_e B c b k x = mr_e A c b k x := by
  unfold mr_e
  rw [g _ _ (by omega) (by omega), g _ _ (by omega) (by omega)]
/-- the set is put into row i of the other round -/
def mr_o (L : Nat → Nat → Int64) (i : Nat) : Nat → Nat → Int64 := wv_u (wv_u L 494 (2 * i) (L 460 53)) 494 (2 * i + 1) (L 460 54)
theorem mr_o_at {L : Nat → Nat → Int64} {i x : Nat} : mr_e (mr_o L i) 494 0 i x = mr_s L x := by
  unfold mr_e mr_s mr_o
  rw [Nat.zero_add, wv_u_no _ _ (by omega), wv_u_at, wv_u_at]
theorem mr_o_no {L : Nat → Nat → Int64} {i k x : Nat} (h : ¬ k = i) : mr_e (mr_o L i) 494 0 k x = mr_e L 494 0 k x := by
  unfold mr_e mr_o
  rw [Nat.zero_add, wv_u_no _ _ (by omega), wv_u_no _ _ (by omega), wv_u_no _ _ (by omega), wv_u_no _ _ (by omega)]
theorem mr_Fo_o {A B : Nat → Nat → Int64} {i : Nat} (h : mr_Fo A B) : mr_Fo A (mr_o B i) := fun c j a d => by
  unfold mr_o
  rw [wv_u_no _ _ (by omega), wv_u_no _ _ (by omega)]
  exact h c j a d
theorem mr_o_54 {L : Nat → Nat → Int64} {j : Nat} {a : Int64} : wv_u L 494 j a 460 54 = L 460 54 := wv_u_no _ _ (by omega)
theorem mr_cp {L1 : Nat → Nat → Int64} {Z k : Nat} {F : Nat → Nat → Prop} (hk : 2 * Z + 2 ≤ k) (h1 : ∀ j, j < k → L1 493 j = L1 494 j) (h2 : ∀ i x, i ≤ Z → (mr_e L1 494 0 i x = true ↔ F i x)) (i x : Nat) (hi : i ≤ Z) : mr_e L1 493 0 i x = true ↔ F i x := by
  rw [← h2 i x hi]
  unfold mr_e
  rw [h1 _ (by omega), h1 _ (by omega)]
/-- one step, and on -/
def mr_A (E G : Nat → Nat → Prop) (Z i x : Nat) : Prop := ∃ b, i ≤ b ∧ b < Z + 1 ∧ E i b ∧ G b x
def mr_G (L : Nat → Nat → Int64) (a b : Nat) : Prop := mr_e L 493 0 a b = true
def mr_hcp (Z l : Nat) (x3 : List (Option Value)) (F : Nat → Nat → Prop) (T : wv_T) (N : Nat) (I : Nat → Nat → Int32) (L : Nat → Nat → Int64) (R : Nat → Nat → Option Nat) : Nat → wv_P := fun mm lv st T1 N1 I1 L1 R1 nc ns => ∃ (k : Nat), lv = some (.ref 460) :: some (.int (Int32.ofNat l)) :: some (.int (Int32.ofNat k)) :: x3 ∧ st = [] ∧ T1 = T ∧ N1 = N ∧ I1 = I ∧ R1 = R ∧ nc = 0 ∧ ns = 0 ∧ k ≤ 2 * Z + 2 ∧ mm = 500 - k ∧ mr_Fr L L1 ∧ (∀ i x, i ≤ Z → (mr_e L1 494 0 i x = true ↔ F i x)) ∧ ∀ j, j < k → L1 493 j = L1 494 j
def mr_h398 (Z l : Nat) (T : wv_T) (N : Nat) (I : Nat → Nat → Int32) (L : Nat → Nat → Int64) (R : Nat → Nat → Option Nat) : Nat → Option (Nat → wv_P) := fun pc =>
  if pc = 2 then some (fun mm lv st T1 N1 I1 L1 R1 nc ns => ∃ (i : Nat) (x3 : Option Value), lv = [some (.ref 460), some (.int (Int32.ofNat l)), some (.int (Int32.ofNat i)), x3, none, none] ∧ st = [] ∧ T1 = T ∧ N1 = N ∧ I1 = I ∧ R1 = R ∧ nc = 0 ∧ ns = 0 ∧ i ≤ Z + 1 ∧ mm = 1000 + 200 * (Z + 1 - i) ∧ mr_Fo L L1 ∧ ∀ a x, a < i → (mr_e L1 494 0 a x = true ↔ mr_A (mr_E L l) (mr_G L) Z a x))
  else if pc = 16 then some (fun mm lv st T1 N1 I1 L1 R1 nc ns => ∃ (i k : Nat), lv = [some (.ref 460), some (.int (Int32.ofNat l)), some (.int (Int32.ofNat i)), some (.int (Int32.ofNat k)), none, none] ∧ st = [] ∧ T1 = T ∧ N1 = N ∧ I1 = I ∧ R1 = R ∧ nc = 0 ∧ ns = 0 ∧ i ≤ Z ∧ i ≤ k ∧ k ≤ Z + 1 ∧ mm = 1000 + 200 * (Z + 1 - i) - 1 - k ∧ mr_Fo L L1 ∧ (∀ a x, a < i → (mr_e L1 494 0 a x = true ↔ mr_A (mr_E L l) (mr_G L) Z a x)) ∧ ∀ x, mr_s L1 x = true ↔ ∃ b, i ≤ b ∧ b < k ∧ mr_E L l i b ∧ mr_G L b x)
  else if pc = 79 then some (fun mm lv st T1 N1 I1 L1 R1 nc ns => ∃ x3, mr_hcp Z l [x3, none, none] (mr_A (mr_E L l) (mr_G L) Z) T N I L R mm lv st T1 N1 I1 L1 R1 nc ns)
  else none
def mr_c398 : wv_c1 := fun as T N I L R q => ∃ (S : rn_N) (m0 lk wd l : Nat) (v : Nat → Nat), as = [.ref 460, .int (Int32.ofNat l)] ∧ mr_X T I S m0 lk wd v ∧ l < 800 ∧ ∀ L1, (∀ i x, i ≤ lk + wd → (mr_e L1 493 0 i x = true ↔ mr_A (mr_E L l) (mr_G L) (lk + wd) i x)) → mr_Fr L L1 → q (.inl none) T N I L1 R 0 0
set_option maxRecDepth 100000 in
theorem wM_398 : ∃ cb ci np, pt_mt 398 = some (32, cb, 4, false, none, ci, np) := ⟨_, _, _, rfl⟩
set_option maxRecDepth 100000 in
set_option maxHeartbeats 4000000 in
theorem mr_aheadM {sc : pt_Sc} {d : Nat} : wv_C wm_fx sc (d + 1 + 1 + 1) 398 mr_c398 := by
  rintro as T N I L R q ⟨S, m0, lk, wd, l, v, rfl, ⟨hT, hS, h49, hlk, h32, hwd, hv⟩, hl, h⟩ w0 HR
  obtain ⟨cb, ci, np, hm⟩ := wM_398
  have hc382 : wv_C wm_fx sc (d + 1 + 1) 382 mr_c382 := wv_C_deep (by omega) (mr_last (d := d))
  have hc383 : wv_C wm_fx sc (d + 1 + 1) 383 mr_c383 := wv_C_deep (by omega) (mr_clear (d := d))
  have hc390 : wv_C wm_fx sc (d + 1 + 1) 390 mr_c390 := wv_C_deep (by omega) (mr_ends (d := d))
  have hc395 : wv_C wm_fx sc (d + 1 + 1) 395 mr_c395 := wv_C_deep (by omega) (mr_joinRound (d := d))
  refine wv_meth (hh := none) rfl (sp := wv_sp [(382, mr_c382), (383, mr_c383), (390, mr_c390), (395, mr_c395)]) (hd := mr_h398 (lk + wd) l T N I L R) (n := 300) (n1 := 300) hm zc_398 rfl (wv_sp_ok (fun q hq => by
    rcases List.mem_cons.mp hq with h | h
    · rw [h]; exact hc382
    rcases List.mem_cons.mp h with h | h
    · rw [h]; exact hc383
    rcases List.mem_cons.mp h with h | h
    · rw [h]; exact hc390
    rw [List.mem_singleton.mp h]; exact hc395)) ?_ ?_ HR
  · exact ⟨_, 0, none, rfl, rfl, rfl, rfl, rfl, rfl, rfl, rfl, by omega, rfl, mr_Fo_r _, fun a x h1 => by omega⟩
  · intro pc P hP m lv st T1 N1 I1 L1 R1 nc ns hh
    have ez := wi_on (n := lk + wd) (by omega)
    unfold mr_h398 at hP
    split at hP
    · cases hP
      rename_i hpc
      subst hpc
      obtain ⟨i, x3, rfl, rfl, rfl, rfl, rfl, rfl, rfl, rfl, hi, rfl, hF, hE⟩ := hh
      have ei := wi_on (n := i) (by omega)
      refine ⟨lk, wd, rfl, h49, h32, by omega, ?_⟩
      refine ⟨fun w => ?_, fun w => ?_⟩
      · rw [wi_lt, ei, ez] at w
        exact ⟨500, by omega, x3, 0, rfl, rfl, rfl, rfl, rfl, rfl, rfl, rfl, by omega, rfl, fun c j _ b d => hF c j b d, fun a x ha => hE a x (by omega), fun j hj => by omega⟩
      rw [wi_lt, ei, ez] at w
      refine ⟨rfl, fun L2 s2 f2 => ?_⟩
      refine ⟨1000 + 200 * (lk + wd + 1 - i) - 1 - i, by omega, i, i, rfl, rfl, rfl, rfl, rfl, rfl, rfl, rfl, by omega, by omega, by omega, rfl, mr_Fo_s hF f2, fun a x h1 => ?_, fun x => ?_⟩
      · rw [mr_Fs_e f2 (by decide)]
        exact hE a x h1
      · rw [s2]
        exact ⟨fun z => (by cases z), fun ⟨b, b1, b2, _⟩ => by omega⟩
    · split at hP
      · cases hP
        rename_i hpc
        subst hpc
        obtain ⟨i, k, rfl, rfl, rfl, rfl, rfl, rfl, rfl, rfl, hi, hik, hk, rfl, hF, hE, hs⟩ := hh
        have ek := wi_on (n := k) (by omega)
        refine ⟨lk, wd, rfl, h49, h32, by omega, ?_⟩
        refine ⟨fun w => ?_, fun w => ?_⟩
        · rw [wi_lt, ek, ez] at w
          have e1 := mr_iy (i := i) (by omega)
          have e2 := wq_4s (2 * i)
          have n1 := wi_onn (n := 2 * i) (by omega)
          have n2 := wi_onn (n := 2 * i + 1) (by omega)
          refine ⟨_, wm_t hT rfl, by rw [e1]; exact pp_b (c := 172) (by omega) (by omega), by decide, ?_⟩
          refine ⟨_, wm_t hT rfl, by rw [e1, e2]; exact pp_b (c := 172) (by omega) (by omega), by decide, ?_⟩
          have eo : wv_u (wv_u L1 494 (Int32.ofInt 2 * Int32.ofNat i).toNatClampNeg (L1 460 53)) 494 (Int32.ofInt 2 * Int32.ofNat i + Int32.ofInt 1).toNatClampNeg (wv_u L1 494 (Int32.ofInt 2 * Int32.ofNat i).toNatClampNeg (L1 460 53) 460 54) = mr_o L1 i := by
            unfold mr_o
            rw [e1, e2, n1, n2, mr_o_54]
          rw [eo]
          refine ⟨1000 + 200 * (lk + wd + 1 - (i + 1)), by omega, i + 1, _, by rw [← wq_4s i]; rfl, rfl, rfl, rfl, rfl, rfl, rfl, rfl, by omega, rfl, mr_Fo_o hF, fun a x h1 => ?_⟩
          by_cases e : a = i
          · subst e
            rw [mr_o_at, hs, show k = lk + wd + 1 by omega]
            rfl
          · rw [mr_o_no e]
            exact hE a x (by omega)
        rw [wi_lt, ek, ez] at w
        refine ⟨l, i, k, rfl, hT, hl, by omega, by omega, ?_⟩
        have ee : mr_e L1 492 (172 * l) i k = mr_e L 492 (172 * l) i k := mr_Fo_e hF (by decide) (by decide)
        refine ⟨fun w2 => ?_, fun w2 => ?_⟩
        · have w2 := wb_i_2.mp (fun z => z w2)
          rw [ee] at w2
          refine ⟨1000 + 200 * (lk + wd + 1 - i) - 1 - (k + 1), by omega, i, k + 1, by rw [← wq_4s k]; rfl, rfl, rfl, rfl, rfl, rfl, rfl, rfl, hi, by omega, by omega, rfl, hF, hE, fun x => (hs x).trans ?_⟩
          constructor
          · rintro ⟨b, b1, b2, b3⟩
            exact ⟨b, b1, by omega, b3⟩
          · rintro ⟨b, b1, b2, b3⟩
            by_cases e : b = k
            · subst e
              have b4 : mr_e L 492 (172 * l) i b = true := b3.1
              rw [w2] at b4
              cases b4
            · exact ⟨b, b1, by omega, b3⟩
        · have w2 := wb_i_1.mp w2
          rw [ee] at w2
          refine ⟨k, rfl, hT, by omega, fun L4 s4 f4 => ?_⟩
          refine ⟨1000 + 200 * (lk + wd + 1 - i) - 1 - (k + 1), by omega, i, k + 1, by rw [← wq_4s k]; rfl, rfl, rfl, rfl, rfl, rfl, rfl, rfl, hi, by omega, by omega, rfl, mr_Fo_s hF f4, fun a x h1 => ?_, fun x => ?_⟩
          · rw [mr_Fs_e f4 (by decide)]
            exact hE a x h1
          · rw [s4, Bool.or_eq_true, hs x, mr_Fo_e hF (by decide) (by decide)]
            constructor
            · rintro (⟨b, b1, b2, b3⟩ | z)
              · exact ⟨b, b1, by omega, b3⟩
              · exact ⟨k, hik, by omega, w2, z⟩
            · rintro ⟨b, b1, b2, b3⟩
              by_cases e : b = k
              · subst e
                exact Or.inr b3.2
              · exact Or.inl ⟨b, b1, by omega, b3⟩
      · split at hP
        · cases hP
          rename_i hpc
          subst hpc
          obtain ⟨x3, k, rfl, rfl, rfl, rfl, rfl, rfl, rfl, rfl, hk, rfl, hF, hE, hC⟩ := hh
          have ek := wi_on (n := k) (by omega)
          have ekn := wi_onn (n := k) (by omega)
          have e2 : Int32.ofInt 2 * Int32.ofNat (lk + wd) + Int32.ofInt 1 = Int32.ofNat (2 * (lk + wd) + 1) := by rw [mr_iy (by omega), wq_4s]
          have e2z := wi_on (n := 2 * (lk + wd) + 1) (by omega)
          refine ⟨lk, wd, rfl, h49, h32, by omega, ?_⟩
          refine ⟨fun w => ?_, fun w => ?_⟩
          · rw [e2, wi_lt, ek, e2z] at w
            exact h _ (mr_cp (by omega) hC hE) hF
          rw [e2, wi_lt, ek, e2z] at w
          refine ⟨_, wm_t hT rfl, pp_b (c := 172) (by omega) (by omega), ?_⟩
          refine ⟨_, wm_t hT rfl, pp_b (c := 172) (by omega) (by omega), by decide, ?_⟩
          rw [ekn]
          refine ⟨500 - (k + 1), by omega, x3, k + 1, by rw [← wq_4s k]; rfl, rfl, rfl, rfl, rfl, rfl, rfl, rfl, by omega, rfl, fun c j a b d => ?_, fun i x hi => ?_, fun j hj => ?_⟩
          · rw [wv_u_no _ _ (by omega)]
            exact hF c j a b d
          · rw [← hE i x hi]
            unfold mr_e
            rw [wv_u_no _ _ (by omega), wv_u_no _ _ (by omega)]
          · by_cases e : j = k
            · subst e
              rw [wv_u_at, wv_u_no _ _ (by omega)]
            · rw [wv_u_no _ _ (by omega), wv_u_no _ _ (by omega)]
              exact hC j (by omega)
        · cases hP
def mr_h402 (c1 c0 : Nat → Bool) (H : Nat → Nat → Prop) (Z l : Nat) (T : wv_T) (N : Nat) (I : Nat → Nat → Int32) (L : Nat → Nat → Int64) (R : Nat → Nat → Option Nat) : Nat → Option (Nat → wv_P) := fun pc =>
  if pc = 5 then some (fun mm lv st T1 N1 I1 L1 R1 nc ns => ∃ (j : Nat) (c : Int32), c = mr_i j ∧ lv = [some (.ref 460), some (.int (Int32.ofNat l)), some (.int c), none, none] ∧ st = [] ∧ T1 = T ∧ N1 = N ∧ I1 = I ∧ R1 = R ∧ nc = 0 ∧ ns = 0 ∧ j ≤ Z + 1 ∧ mm = 1000 + 3 * j ∧ mr_Fo L L1 ∧ ∀ a x, j ≤ a → a ≤ Z → (mr_e L1 494 0 a x = true ↔ H a x))
  else if pc = 30 then some (fun mm lv st T1 N1 I1 L1 R1 nc ns => ∃ (i : Nat), lv = [some (.ref 460), some (.int (Int32.ofNat l)), some (.int (Int32.ofNat i)), none, none] ∧ st = [] ∧ T1 = T ∧ N1 = N ∧ I1 = I ∧ R1 = R ∧ nc = 0 ∧ ns = 0 ∧ i ≤ Z ∧ mm = 1000 + 3 * i + 2 ∧ mr_Fo L L1 ∧ (∀ a x, i < a → a ≤ Z → (mr_e L1 494 0 a x = true ↔ H a x)) ∧ ∀ x, mr_s L1 x = (c1 i && mr_e L 493 0 (i + 1) x))
  else if pc = 78 then some (fun mm lv st T1 N1 I1 L1 R1 nc ns => ∃ (i : Nat), lv = [some (.ref 460), some (.int (Int32.ofNat l)), some (.int (Int32.ofNat i)), none, none] ∧ st = [] ∧ T1 = T ∧ N1 = N ∧ I1 = I ∧ R1 = R ∧ nc = 0 ∧ ns = 0 ∧ i ≤ Z ∧ mm = 1000 + 3 * i + 1 ∧ mr_Fo L L1 ∧ (∀ a x, i < a → a ≤ Z → (mr_e L1 494 0 a x = true ↔ H a x)) ∧ ∀ x, mr_s L1 x = true ↔ H i x)
  else if pc = 112 then some (mr_hcp Z l [none, none] H T N I L R)
  else none
theorem mr_c_lt {h : Nat → Bool} {lk Z i : Nat} {v : Nat → Nat} {b : Bool} (hZ : lk ≤ Z) (g : mr_c h lk Z v i b = true) : i < Z := by
  unfold mr_c at g
  split at g
  · omega
  · exact of_decide_eq_true g
def mr_c402 : wv_c1 := fun as T N I L R q => ∃ (S : rn_N) (m0 lk wd l : Nat) (v : Nat → Nat) (H : Nat → Nat → Prop), as = [.ref 460, .int (Int32.ofNat l)] ∧ mr_X T I S m0 lk wd v ∧ l < rn_n S ∧ rn_k S l = 60 ∧ (∀ i x, i ≤ lk + wd → (H i x ↔ (mr_c (rn_h S l) lk (lk + wd) v i true = true ∧ mr_e L 493 0 (i + 1) x = true) ∨ (mr_c (rn_h S l) lk (lk + wd) v i false = true ∧ H (i + 1) x))) ∧ ∀ L1, (∀ i x, i ≤ lk + wd → (mr_e L1 493 0 i x = true ↔ H i x)) → mr_Fr L L1 → q (.inl none) T N I L1 R 0 0
set_option maxRecDepth 100000 in
theorem wM_402 : ∃ cb ci np, pt_mt 402 = some (32, cb, 3, false, none, ci, np) := ⟨_, _, _, rfl⟩
set_option maxRecDepth 100000 in
set_option maxHeartbeats 4000000 in
theorem mr_reach {sc : pt_Sc} {d : Nat} : wv_C wm_fx sc (d + 1 + 1 + 1) 402 mr_c402 := by
  rintro as T N I L R q ⟨S, m0, lk, wd, l, v, H, rfl, hX, hl, hk60, hH, h⟩ w0 HR
  obtain ⟨cb, ci, np, hm⟩ := wM_402
  have hc382 : wv_C wm_fx sc (d + 1 + 1) 382 mr_c382 := wv_C_deep (by omega) (mr_last (d := d))
  have hc383 : wv_C wm_fx sc (d + 1 + 1) 383 mr_c383 := wv_C_deep (by omega) (mr_clear (d := d))
  have hc384 : wv_C wm_fx sc (d + 1 + 1) 384 mr_c384 := wv_C_deep (by omega) (mr_can (d := d))
  have hc395 : wv_C wm_fx sc (d + 1 + 1) 395 mr_c395 := wv_C_deep (by omega) (mr_joinRound (d := d))
  refine wv_meth (hh := none) rfl (sp := wv_sp [(382, mr_c382), (383, mr_c383), (384, mr_c384), (395, mr_c395)]) (hd := mr_h402 (fun i => mr_c (rn_h S l) lk (lk + wd) v i true) (fun i => mr_c (rn_h S l) lk (lk + wd) v i false) H (lk + wd) l T N I L R) (n := 300) (n1 := 300) hm zc_402 rfl (wv_sp_ok (fun q hq => by
    rcases List.mem_cons.mp hq with h | h
    · rw [h]; exact hc382
    rcases List.mem_cons.mp h with h | h
    · rw [h]; exact hc383
    rcases List.mem_cons.mp h with h | h
    · rw [h]; exact hc384
    rw [List.mem_singleton.mp h]; exact hc395)) ?_ ?_ HR
  · refine ⟨lk, wd, rfl, hX.2.2.1, hX.2.2.2.2.1, by have := hX.2.2.2.1; have := hX.2.2.2.2.2.1; omega, ?_⟩
    exact ⟨_, lk + wd + 1, _, (mr_i_s (by have := hX.2.2.2.1; have := hX.2.2.2.2.2.1; omega)).symm, rfl, rfl, rfl, rfl, rfl, rfl, rfl, rfl, Nat.le_refl _, rfl, mr_Fo_r _, fun a x h1 h2 => by omega⟩
  · intro pc P hP m lv st T1 N1 I1 L1 R1 nc ns hh
    have hX0 := hX
    obtain ⟨hT, ⟨h37, hn5, hm0, hM⟩, h49, hlk, h32, hwd, hv⟩ := hX0
    have ez := wi_on (n := lk + wd) (by omega)
    unfold mr_h402 at hP
    by_cases p5 : pc = 5
    · rw [if_pos p5] at hP
      cases hP
      subst p5
      obtain ⟨j, c, hc, rfl, rfl, rfl, rfl, rfl, rfl, rfl, rfl, hj, rfl, hF, hE⟩ := hh
      refine ⟨fun w => ?_, fun w => ?_⟩
      · have w : c < 0 := w
        rw [hc, mr_i_n (by omega)] at w
        exact ⟨500, by omega, 0, rfl, rfl, rfl, rfl, rfl, rfl, rfl, rfl, by omega, rfl, fun c j _ b d => hF c j b d, fun a x ha => hE a x (by omega) ha, fun j hj => by omega⟩
      have w : ¬ c < 0 := w
      rw [hc, mr_i_n (by omega)] at w
      obtain ⟨i, rfl⟩ : ∃ i, j = i + 1 := ⟨j - 1, by omega⟩
      rw [mr_i_s (by omega)] at hc
      subst hc
      refine ⟨rfl, fun L2 s2 f2 => ?_⟩
      refine ⟨S, m0, lk, wd, l, i, v, true, rfl, hX, hl, hk60, by omega, ?_⟩
      refine ⟨fun w2 => ?_, fun w2 => ?_⟩
      · have w2 : mr_c (rn_h S l) lk (lk + wd) v i true = false := wb_i_2.mp (fun z => z w2)
        refine ⟨1000 + 3 * i + 2, by omega, i, rfl, rfl, rfl, rfl, rfl, rfl, rfl, rfl, by omega, rfl, mr_Fo_s hF f2, fun a x h1 h2 => ?_, fun x => ?_⟩
        · rw [mr_Fs_e f2 (by decide)]
          exact hE a x h1 h2
        · show mr_s L2 x = (mr_c (rn_h S l) lk (lk + wd) v i true && _)
          rw [w2, s2, Bool.false_and]
      · have w2 := wb_i_1.mp w2
        refine ⟨i + 1, congrArg (fun z => [Value.ref 460, Value.int z]) (wq_4s i), hT, by omega, fun L3 s3 f3 => ?_⟩
        refine ⟨1000 + 3 * i + 2, by omega, i, rfl, rfl, rfl, rfl, rfl, rfl, rfl, rfl, by omega, rfl, mr_Fo_s (mr_Fo_s hF f2) f3, fun a x h1 h2 => ?_, fun x => ?_⟩
        · rw [mr_Fs_e f3 (by decide), mr_Fs_e f2 (by decide)]
          exact hE a x h1 h2
        · show mr_s L3 x = (mr_c (rn_h S l) lk (lk + wd) v i true && _)
          rw [w2, s3, s2, Bool.false_or, Bool.true_and, mr_Fs_e f2 (by decide), mr_Fo_e hF (by decide) (by decide)]
    rw [if_neg p5] at hP
    by_cases p30 : pc = 30
    · rw [if_pos p30] at hP
      cases hP
      subst p30
      obtain ⟨i, rfl, rfl, rfl, rfl, rfl, rfl, rfl, rfl, hi, rfl, hF, hE, hs⟩ := hh
      have hs : ∀ x, mr_s L1 x = (mr_c (rn_h S l) lk (lk + wd) v i true && mr_e L 493 0 (i + 1) x) := hs
      refine ⟨S, m0, lk, wd, l, i, v, false, rfl, hX, hl, hk60, by omega, ?_⟩
      refine ⟨fun w2 => ?_, fun w2 => ?_⟩
      · have w2 : mr_c (rn_h S l) lk (lk + wd) v i false = false := wb_i_2.mp (fun z => z w2)
        refine ⟨1000 + 3 * i + 1, by omega, i, rfl, rfl, rfl, rfl, rfl, rfl, rfl, rfl, by omega, rfl, hF, hE, fun x => ?_⟩
        rw [hs, Bool.and_eq_true, hH i x hi, w2]
        exact ⟨Or.inl, fun z => z.elim id (fun y => by cases y.1)⟩
      · have w2 := wb_i_1.mp w2
        have hiz := mr_c_lt (by omega) w2
        have e1 : Int32.ofInt 2 * Int32.ofNat i + Int32.ofInt 2 = Int32.ofNat (2 * i + 2) := by rw [mr_iy (by omega)]; exact wq_ad (b := 2) (by omega)
        have e2 : Int32.ofInt 2 * Int32.ofNat i + Int32.ofInt 3 = Int32.ofNat (2 * i + 3) := by rw [mr_iy (by omega)]; exact wq_ad (b := 3) (by omega)
        have n1 := wi_onn (n := 2 * i + 2) (by omega)
        have n2 := wi_onn (n := 2 * i + 3) (by omega)
        refine ⟨_, wm_t hT rfl, by rw [e1]; exact pp_b (c := 172) (by omega) (by omega), ?_⟩
        refine ⟨_, wm_t hT rfl, by rw [e2]; exact pp_b (c := 172) (by omega) (by omega), ?_⟩
        refine ⟨1000 + 3 * i + 1, by omega, i, rfl, rfl, rfl, rfl, rfl, rfl, rfl, rfl, by omega, rfl, mr_Fo_s hF mr_Fs_u, fun a x h1 h2 => ?_, fun x => ?_⟩
        · rw [mr_Fs_e mr_Fs_u (by decide)]
          exact hE a x h1 h2
        · rw [e1, e2, n1, n2]
          have ee : mr_s (wv_u (wv_u L1 460 53 (L1 460 53 ||| L1 494 (2 * i + 2))) 460 54 (wv_u L1 460 53 (L1 460 53 ||| L1 494 (2 * i + 2)) 460 54 ||| wv_u L1 460 53 (L1 460 53 ||| L1 494 (2 * i + 2)) 494 (2 * i + 3))) x = (mr_s L1 x || mr_e L1 494 0 (i + 1) x) := by
            rw [mr_s_or, wv_u_no _ _ (by omega)]
            unfold mr_e
            rw [Nat.zero_add]
            rfl
          refine (Bool.eq_iff_iff.mp ee).trans ?_
          rw [Bool.or_eq_true, hs, Bool.and_eq_true, hE (i + 1) x (by omega) (by omega), hH i x hi, w2]
          exact ⟨fun z => z.elim Or.inl (fun y => Or.inr ⟨rfl, y⟩), fun z => z.elim Or.inl (fun y => Or.inr y.2)⟩
    rw [if_neg p30] at hP
    by_cases p78 : pc = 78
    · rw [if_pos p78] at hP
      cases hP
      subst p78
      obtain ⟨i, rfl, rfl, rfl, rfl, rfl, rfl, rfl, rfl, hi, rfl, hF, hE, hs⟩ := hh
      have e1 := mr_iy (i := i) (by omega)
      have e2 := wq_4s (2 * i)
      have n1 := wi_onn (n := 2 * i) (by omega)
      have n2 := wi_onn (n := 2 * i + 1) (by omega)
      refine ⟨_, wm_t hT rfl, by rw [e1]; exact pp_b (c := 172) (by omega) (by omega), by decide, ?_⟩
      refine ⟨_, wm_t hT rfl, by rw [e1, e2]; exact pp_b (c := 172) (by omega) (by omega), by decide, ?_⟩
      have eo : wv_u (wv_u L1 494 (Int32.ofInt 2 * Int32.ofNat i).toNatClampNeg (L1 460 53)) 494 (Int32.ofInt 2 * Int32.ofNat i + Int32.ofInt 1).toNatClampNeg (wv_u L1 494 (Int32.ofInt 2 * Int32.ofNat i).toNatClampNeg (L1 460 53) 460 54) = mr_o L1 i := by
        unfold mr_o
        rw [e1, e2, n1, n2, mr_o_54]
      rw [eo]
      refine ⟨1000 + 3 * i, by omega, i, _, mr_i_d (by omega), rfl, rfl, rfl, rfl, rfl, rfl, rfl, rfl, by omega, rfl, mr_Fo_o hF, fun a x h1 h2 => ?_⟩
      by_cases e : a = i
      · subst e
        rw [mr_o_at]
        exact hs x
      · rw [mr_o_no e]
        exact hE a x (by omega) h2
    rw [if_neg p78] at hP
    by_cases p112 : pc = 112
    · rw [if_pos p112] at hP
      cases hP
      subst p112
      obtain ⟨k, rfl, rfl, rfl, rfl, rfl, rfl, rfl, rfl, hk, rfl, hF, hE, hC⟩ := hh
      have ek := wi_on (n := k) (by omega)
      have ekn := wi_onn (n := k) (by omega)
      have e2 : Int32.ofInt 2 * Int32.ofNat (lk + wd) + Int32.ofInt 1 = Int32.ofNat (2 * (lk + wd) + 1) := by rw [mr_iy (by omega), wq_4s]
      have e2z := wi_on (n := 2 * (lk + wd) + 1) (by omega)
      refine ⟨lk, wd, rfl, h49, h32, by omega, ?_⟩
      refine ⟨fun w => ?_, fun w => ?_⟩
      · rw [e2, wi_lt, ek, e2z] at w
        exact h _ (mr_cp (by omega) hC hE) hF
      rw [e2, wi_lt, ek, e2z] at w
      refine ⟨_, wm_t hT rfl, pp_b (c := 172) (by omega) (by omega), ?_⟩
      refine ⟨_, wm_t hT rfl, pp_b (c := 172) (by omega) (by omega), by decide, ?_⟩
      rw [ekn]
      refine ⟨500 - (k + 1), by omega, k + 1, by rw [← wq_4s k]; rfl, rfl, rfl, rfl, rfl, rfl, rfl, rfl, by omega, rfl, fun c j a b d => ?_, fun i x hi => ?_, fun j hj => ?_⟩
      · rw [wv_u_no _ _ (by omega)]
        exact hF c j a b d
      · rw [← hE i x hi]
        unfold mr_e
        rw [wv_u_no _ _ (by omega), wv_u_no _ _ (by omega)]
      · by_cases e : j = k
        · subst e
          rw [wv_u_at, wv_u_no _ _ (by omega)]
        · rw [wv_u_no _ _ (by omega), wv_u_no _ _ (by omega)]
          exact hC j (by omega)
    rw [if_neg p112] at hP
    cases hP
