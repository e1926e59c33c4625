/-! ===== a design of numbers: the class reads ===== -/
abbrev wt_q : Type := Nat × Option Nat
/-- a number within bounds -/
def nm_rd (ts : List wt_t) (n : Nat) (lo hi : Int32) (s : wt_q) : Int32 × wt_q :=
  (if (tk_take ts n (Int8.ofInt 40).toInt32 (if tk_low ts s.1 < lo ∨ hi < tk_low ts s.1 then tk_ref ts n s else s)).2.isSome = true then lo else tk_low ts s.1, tk_take ts n (Int8.ofInt 40).toInt32 (if tk_low ts s.1 < lo ∨ hi < tk_low ts s.1 then tk_ref ts n s else s))
theorem tk_ref_1 (ts : List wt_t) (n : Nat) (s : wt_q) : (tk_ref ts n s).1 = s.1 := by
  unfold tk_ref tk_refAt
  split <;> rfl
def wt_c86 : wv_c1 := fun as T N I L R q => ∃ (ts : List wt_t) (n : Nat) (s : wt_q) (lo hi : Int32), as = [.ref 26, .int lo, .int hi] ∧ wm_T T ∧ wt_K I L ts n s.1 s.2 ∧ ∀ I1, wt_Q I L ts n (nm_rd ts n lo hi s).2 I1 → q (.inl (some (.int (nm_rd ts n lo hi s).1))) T N I1 L R 0 0
set_option maxRecDepth 100000 in
theorem wM_86 : ∃ cb ci np, pt_mt 86 = some (7, cb, 4, false, some .int, ci, np) := ⟨_, _, _, rfl⟩
set_option maxRecDepth 100000 in
set_option maxHeartbeats 4000000 in
theorem wt_readNumber {sc : pt_Sc} {d : Nat} : wv_C wm_fx sc (d + 1 + 1 + 1) 86 wt_c86 := by
  rintro as T N I L R q ⟨ts, n, s, lo, hi, rfl, hT, hK, h⟩ w HR
  obtain ⟨cb, ci, np, hm⟩ := wM_86
  have hc87 : wv_C wm_fx sc (d + 1 + 1) 87 wt_c87 := wv_C_deep (by omega) (wt_low (d := d))
  have hc52 : wv_C wm_fx sc (d + 1 + 1) 52 wt_c52 := wv_C_deep (by omega) (wt_refuse (d := d))
  have hc49 : wv_C wm_fx sc (d + 1 + 1) 49 wt_c49 := wv_C_deep (by omega) (wt_take (d := d))
  have hc61 : wv_C wm_fx sc (d + 1 + 1) 61 wt_c61 := wv_C_deep (by omega) (wt_faulty (d := d))
  refine wv_meth (hh := none) rfl (sp := wv_sp [(87, wt_c87), (52, wt_c52), (49, wt_c49), (61, wt_c61)]) (hd := fun _ => none) (n := 0) (n1 := 300) hm zc_86 rfl (wv_sp_ok (fun q hq => by
    rcases List.mem_cons.mp hq with h | h
    · rw [h]; exact hc87
    rcases List.mem_cons.mp h with h | h
    · rw [h]; exact hc52
    rcases List.mem_cons.mp h with h | h
    · rw [h]; exact hc49
    rw [List.mem_singleton.mp h]; exact hc61)) ?_ (fun pc P h => by cases h) HR
  have main : ∀ (I1 : Nat → Nat → Int32) (s1 : wt_q), s1 = (if tk_low ts s.1 < lo ∨ hi < tk_low ts s.1 then tk_ref ts n s else s) → wt_Q I L ts n s1 I1 → wt_K I1 L ts n s1.1 s1.2 ∧ ∀ I2, wt_Q I1 L ts n (tk_take ts n (Int8.ofInt 40).toInt32 s1) I2 → wt_K I2 L ts n (tk_take ts n (Int8.ofInt 40).toInt32 s1).1 (tk_take ts n (Int8.ofInt 40).toInt32 s1).2 ∧ (wp_b (tk_take ts n (Int8.ofInt 40).toInt32 s1).2.isSome = 0 → q (.inl (some (.int (tk_low ts s.1)))) T N I2 L R 0 0) ∧ (¬ wp_b (tk_take ts n (Int8.ofInt 40).toInt32 s1).2.isSome = 0 → q (.inl (some (.int lo))) T N I2 L R 0 0) := by
    intro I1 s1 e1 g
    refine ⟨g.1, fun I2 g2 => ⟨g2.1, fun hz => ?_, fun hz => ?_⟩⟩
    · have g3 := h I2 (by unfold nm_rd; rw [← e1]; exact wt_Q_tr g g2)
      unfold nm_rd at g3
      rw [← e1] at g3
      rw [if_neg (fun z => by rw [z] at hz; cases hz)] at g3
      exact g3
    · have g3 := h I2 (by unfold nm_rd; rw [← e1]; exact wt_Q_tr g g2)
      unfold nm_rd at g3
      rw [← e1] at g3
      rw [if_pos (by cases hx : (tk_take ts n (Int8.ofInt 40).toInt32 s1).2.isSome with
        | true => rfl
        | false => rw [hx] at hz; exact (hz rfl).elim)] at g3
      exact g3
  refine ⟨ts, n, s, rfl, hT, hK, ?_⟩
  refine ⟨fun h1 => ?_, fun h1 => ?_⟩
  · refine ⟨ts, n, s, rfl, hT, hK, fun I1 g => ?_⟩
    obtain ⟨m1, m2⟩ := main I1 (tk_ref ts n s) (by rw [if_pos (Or.inl h1)]) g
    refine ⟨ts, n, _, _, rfl, hT, m1, fun I2 g2 => ?_⟩
    obtain ⟨m3, m4, m5⟩ := m2 I2 g2
    refine ⟨ts, n, _, rfl, hT, m3, ?_⟩
    exact ⟨fun z => m4 z, fun z => m5 z⟩
  refine ⟨fun h2 => ?_, fun h2 => ?_⟩
  · obtain ⟨m1, m2⟩ := main I s (by rw [if_neg (fun z => z.elim h1 (fun z => Int32.not_lt.mpr h2 z))]) (wt_Q_id hK)
    refine ⟨ts, n, _, _, rfl, hT, m1, fun I2 g2 => ?_⟩
    obtain ⟨m3, m4, m5⟩ := m2 I2 g2
    refine ⟨ts, n, _, rfl, hT, m3, ?_⟩
    exact ⟨fun z => m4 z, fun z => m5 z⟩
  · refine ⟨ts, n, s, rfl, hT, hK, fun I1 g => ?_⟩
    obtain ⟨m1, m2⟩ := main I1 (tk_ref ts n s) (by rw [if_pos (Or.inr (Int32.not_le.mp h2))]) g
    refine ⟨ts, n, _, _, rfl, hT, m1, fun I2 g2 => ?_⟩
    obtain ⟨m3, m4, m5⟩ := m2 I2 g2
    refine ⟨ts, n, _, rfl, hT, m3, ?_⟩
    exact ⟨fun z => m4 z, fun z => m5 z⟩
section NMS
variable (ts : List wt_t) (n : Nat) (a b gr : Int32)
def nm_li (k : Nat) : Int32 := Int32.ofInt 2 * (Int32.ofInt 1 + Int32.ofNat k)
def nm_ll (k : Nat) : Int32 := Int32.ofInt 2 * (Int32.ofInt 1 + a + Int32.ofNat k)
def nm_lg (k : Nat) : Int32 := Int32.ofInt 2 * (Int32.ofInt 1 + a + b + Int32.ofNat k)
def nm_sI (s : wt_q) : Nat → wt_q
  | 0 => s
  | k + 1 => (nm_rd ts n (nm_li k) (nm_li k) (nm_sI s k)).2
def nm_l1 (k : Nat) (s : wt_q) : wt_q := (nm_rd ts n (nm_ll a k) (nm_ll a k) s).2
def nm_l2 (k : Nat) (s : wt_q) : Int32 × wt_q := nm_rd ts n (Int32.ofInt 0) gr (nm_l1 ts n a k s)
def nm_l3 (k : Nat) (s : wt_q) : Int32 × wt_q := nm_rd ts n (Int32.ofInt 0) (Int32.ofInt 1) (nm_l2 ts n a gr k s).2
def nm_sL (s : wt_q) : Nat → wt_q
  | 0 => s
  | k + 1 => (nm_l3 ts n a gr k (nm_sL s k)).2
def nm_nx (s : wt_q) (k : Nat) : Int32 := (nm_l2 ts n a gr k (nm_sL ts n a gr s k)).1
def nm_fi (s : wt_q) (k : Nat) : Int32 := if (nm_l3 ts n a gr k (nm_sL ts n a gr s k)).1 = Int32.ofInt 1 then 1 else 0
def nm_sS (s : wt_q) : Nat → wt_q
  | 0 => s
  | k + 1 => (nm_rd ts n (Int32.ofInt 0) gr (nm_sS s k)).2
def nm_sg (s : wt_q) (k : Nat) : Int32 := (nm_rd ts n (Int32.ofInt 0) gr (nm_sS ts n gr s k)).1
def nm_g1 (k : Nat) (s : wt_q) : wt_q := (nm_rd ts n (nm_lg a b k) (nm_lg a b k) s).2
def nm_g2 (k : Nat) (s : wt_q) : Int32 × wt_q := nm_rd ts n (Int32.ofInt 0) (nm_lg a b k - Int32.ofInt 1) (nm_g1 ts n a b k s)
def nm_g3 (k : Nat) (s : wt_q) : Int32 × wt_q := nm_rd ts n (Int32.ofInt 0) (nm_lg a b k - Int32.ofInt 1) (nm_g2 ts n a b k s).2
def nm_sG (s : wt_q) : Nat → wt_q
  | 0 => s
  | k + 1 => (nm_g3 ts n a b k (nm_sG s k)).2
def nm_on (s : wt_q) (k : Nat) : Int32 := (nm_g2 ts n a b k (nm_sG ts n a b s k)).1
def nm_tw (s : wt_q) (k : Nat) : Int32 := (nm_g3 ts n a b k (nm_sG ts n a b s k)).1
end NMS
/-- a design of the class, as far as it is read -/
def wd_V (I : Nat → Nat → Int32) (C : Nat) (a b : Int32) (g kb kf ks : Nat) (nx fi sg on tw : Nat → Int32) : Prop := I C 8 = a ∧ I C 9 = b ∧ (I C 10 = Int32.ofNat g ∧ I C 7 = 0) ∧ (∀ j, j < kb → I (C + 3) j = nx j) ∧ (∀ j, j < kf → I (C + 4) j = fi j) ∧ (∀ j, j < ks → I (C + 5) j = sg j) ∧ ∀ j, j < g → I (C + 1) j = on j ∧ I (C + 2) j = tw j
/-- what reading into a design leaves alone -/
def wd_F (C : Nat) (I I1 : Nat → Nat → Int32) : Prop := ∀ c j, ¬ (c = 1 ∧ (j = 8 ∨ j = 9)) → ¬ (C ≤ c ∧ c ≤ C + 5) → I1 c j = I c j
theorem wd_F_id (C : Nat) (I : Nat → Nat → Int32) : wd_F C I I := fun _ _ _ _ => rfl
theorem wd_F_tr {C : Nat} {I J K : Nat → Nat → Int32} (h : wd_F C I J) (h2 : wd_F C J K) : wd_F C I K := fun c j a b => by rw [h2 c j a b, h c j a b]
theorem wd_F_Q {C n : Nat} {I J : Nat → Nat → Int32} {L : Nat → Nat → Int64} {ts : List wt_t} {s : wt_q} (h : wt_Q I L ts n s J) : wd_F C I J := fun c j a _ => h.2 c j a
theorem wd_V_Q {I J : Nat → Nat → Int32} {L : Nat → Nat → Int64} {ts : List wt_t} {n C : Nat} {s : wt_q} {a b : Int32} {g kb kf ks : Nat} {nx fi sg on tw : Nat → Int32} (hC : 7 < C) (h : wt_Q I L ts n s J) (hV : wd_V I C a b g kb kf ks nx fi sg on tw) : wd_V J C a b g kb kf ks nx fi sg on tw := by
  obtain ⟨v1, v2, v3, v4, v4b, v5, v6⟩ := hV
  refine ⟨by rw [h.2 _ _ (by omega)]; exact v1, by rw [h.2 _ _ (by omega)]; exact v2, ⟨by rw [h.2 _ _ (by omega)]; exact v3.1, by rw [h.2 _ _ (by omega)]; exact v3.2⟩, fun j hj => ?_, fun j hj => ?_, fun j hj => ?_, fun j hj => ?_⟩
  · rw [h.2 _ _ (by omega)]; exact v4 j hj
  · rw [h.2 _ _ (by omega)]; exact v4b j hj
  · rw [h.2 _ _ (by omega)]; exact v5 j hj
  · rw [h.2 _ _ (by omega), h.2 _ _ (by omega)]; exact v6 j hj
/-- tokens stay when a design is written -/
theorem wt_K_D {I J : Nat → Nat → Int32} {L : Nat → Nat → Int64} {ts : List wt_t} {n C a : Nat} {f : Option Nat} (hC : 7 < C) (h : wt_K I L ts n a f) (hJ : ∀ c j, ¬ (C ≤ c ∧ c ≤ C + 5) → J c j = I c j) : wt_K J L ts n a f := by
  obtain ⟨k1, k2, k3, k4, k5, k6, k7, k8, k9⟩ := h
  refine ⟨by rw [hJ _ _ (by omega)]; exact k1, k2, by rw [hJ _ _ (by omega)]; exact k3, k4, by rw [hJ _ _ (by omega)]; exact k5, k6, by rw [hJ _ _ (by omega)]; exact k7, k8, fun i t ht => ?_⟩
  rw [hJ _ _ (by omega), hJ _ _ (by omega), hJ _ _ (by omega), hJ _ _ (by omega)]
  exact k9 i t ht
theorem wd_V_nx {I : Nat → Nat → Int32} {C k : Nat} {a b x : Int32} {g kf ks : Nat} {nx fi sg on tw : Nat → Int32} (hV : wd_V I C a b g k kf ks nx fi sg on tw) (hx : x = nx k) : wd_V (wv_u (wv_u I (C + 3) k x) C 7 (Int32.ofInt 0)) C a b g (k + 1) kf ks nx fi sg on tw := by
  obtain ⟨v1, v2, v3, v4, v4b, v5, v6⟩ := hV
  refine ⟨?_, ?_, ?_, fun j hj => ?_, fun j hj => ?_, fun j hj => ?_, fun j hj => ?_⟩
  · rw [wv_u_no _ _ (by omega), wv_u_no _ _ (by omega)]; exact v1
  · rw [wv_u_no _ _ (by omega), wv_u_no _ _ (by omega)]; exact v2
  · exact ⟨by rw [wv_u_no _ _ (by omega), wv_u_no _ _ (by omega)]; exact v3.1, by rw [wv_u_at]; rfl⟩
  · by_cases hjk : j = k
    · subst hjk
      rw [wv_u_no _ _ (by omega), wv_u_at]; exact hx
    · rw [wv_u_no _ _ (by omega), wv_u_no _ _ (by omega)]; exact v4 j (by omega)
  · rw [wv_u_no _ _ (by omega), wv_u_no _ _ (by omega)]; exact v4b j hj
  · rw [wv_u_no _ _ (by omega), wv_u_no _ _ (by omega)]; exact v5 j hj
  · constructor
    · rw [wv_u_no _ _ (by omega), wv_u_no _ _ (by omega)]; exact (v6 j hj).1
    · rw [wv_u_no _ _ (by omega), wv_u_no _ _ (by omega)]; exact (v6 j hj).2
theorem wd_V_fi {I : Nat → Nat → Int32} {C k : Nat} {a b x : Int32} {g kb ks : Nat} {nx fi sg on tw : Nat → Int32} (hV : wd_V I C a b g kb k ks nx fi sg on tw) (hx : x = fi k) : wd_V (wv_u (wv_u I (C + 4) k x) C 7 (Int32.ofInt 0)) C a b g kb (k + 1) ks nx fi sg on tw := by
  obtain ⟨v1, v2, v3, v4, v4b, v5, v6⟩ := hV
  refine ⟨?_, ?_, ?_, fun j hj => ?_, fun j hj => ?_, fun j hj => ?_, fun j hj => ?_⟩
  · rw [wv_u_no _ _ (by omega), wv_u_no _ _ (by omega)]; exact v1
  · rw [wv_u_no _ _ (by omega), wv_u_no _ _ (by omega)]; exact v2
  · exact ⟨by rw [wv_u_no _ _ (by omega), wv_u_no _ _ (by omega)]; exact v3.1, by rw [wv_u_at]; rfl⟩
  · rw [wv_u_no _ _ (by omega), wv_u_no _ _ (by omega)]; exact v4 j hj
  · by_cases hjk : j = k
    · subst hjk
      rw [wv_u_no _ _ (by omega), wv_u_at]; exact hx
    · rw [wv_u_no _ _ (by omega), wv_u_no _ _ (by omega)]; exact v4b j (by omega)
  · rw [wv_u_no _ _ (by omega), wv_u_no _ _ (by omega)]; exact v5 j hj
  · constructor
    · rw [wv_u_no _ _ (by omega), wv_u_no _ _ (by omega)]; exact (v6 j hj).1
    · rw [wv_u_no _ _ (by omega), wv_u_no _ _ (by omega)]; exact (v6 j hj).2
theorem wd_V_sig {I : Nat → Nat → Int32} {C k : Nat} {a b x : Int32} {g kb kf : Nat} {nx fi sg on tw : Nat → Int32} (hV : wd_V I C a b g kb kf k nx fi sg on tw) (hx : x = sg k) : wd_V (wv_u (wv_u I (C + 5) k x) C 7 (Int32.ofInt 0)) C a b g kb kf (k + 1) nx fi sg on tw := by
  obtain ⟨v1, v2, v3, v4, v4b, v5, v6⟩ := hV
  refine ⟨?_, ?_, ?_, fun j hj => ?_, fun j hj => ?_, fun j hj => ?_, fun j hj => ?_⟩
  · rw [wv_u_no _ _ (by omega), wv_u_no _ _ (by omega)]; exact v1
  · rw [wv_u_no _ _ (by omega), wv_u_no _ _ (by omega)]; exact v2
  · exact ⟨by rw [wv_u_no _ _ (by omega), wv_u_no _ _ (by omega)]; exact v3.1, by rw [wv_u_at]; rfl⟩
  · rw [wv_u_no _ _ (by omega), wv_u_no _ _ (by omega)]; exact v4 j hj
  · rw [wv_u_no _ _ (by omega), wv_u_no _ _ (by omega)]; exact v4b j hj
  · by_cases hjk : j = k
    · subst hjk
      rw [wv_u_no _ _ (by omega), wv_u_at]; exact hx
    · rw [wv_u_no _ _ (by omega), wv_u_no _ _ (by omega)]; exact v5 j (by omega)
  · constructor
    · rw [wv_u_no _ _ (by omega), wv_u_no _ _ (by omega)]; exact (v6 j hj).1
    · rw [wv_u_no _ _ (by omega), wv_u_no _ _ (by omega)]; exact (v6 j hj).2
theorem wd_V_add {I : Nat → Nat → Int32} {C g : Nat} {a b x y : Int32} {kb kf ks : Nat} {nx fi sg on tw : Nat → Int32} (hg : g < 1000) (hV : wd_V I C a b g kb kf ks nx fi sg on tw) (hx : x = on g) (hy : y = tw g) : wd_V (wd_add C x y (Int32.ofNat g) I) C a b (g + 1) kb kf ks nx fi sg on tw := by
  obtain ⟨v1, v2, v3, v4, v4b, v5, v6⟩ := hV
  unfold wd_add
  rw [wi_onn (n := g) (by omega)]
  refine ⟨?_, ?_, ?_, fun j hj => ?_, fun j hj => ?_, fun j hj => ?_, fun j hj => ?_⟩
  · rw [wv_u_no _ _ (by omega), wv_u_no _ _ (by omega), wv_u_no _ _ (by omega), wv_u_no _ _ (by omega)]; exact v1
  · rw [wv_u_no _ _ (by omega), wv_u_no _ _ (by omega), wv_u_no _ _ (by omega), wv_u_no _ _ (by omega)]; exact v2
  · exact ⟨by rw [wv_u_no _ _ (by omega), wv_u_at]; exact wq_4s g, by rw [wv_u_at]; rfl⟩
  · rw [wv_u_no _ _ (by omega), wv_u_no _ _ (by omega), wv_u_no _ _ (by omega), wv_u_no _ _ (by omega)]; exact v4 j hj
  · rw [wv_u_no _ _ (by omega), wv_u_no _ _ (by omega), wv_u_no _ _ (by omega), wv_u_no _ _ (by omega)]; exact v4b j hj
  · rw [wv_u_no _ _ (by omega), wv_u_no _ _ (by omega), wv_u_no _ _ (by omega), wv_u_no _ _ (by omega)]; exact v5 j hj
  · by_cases hjk : j = g
    · subst hjk
      constructor
      · rw [wv_u_no _ _ (by omega), wv_u_no _ _ (by omega), wv_u_no _ _ (by omega), wv_u_at]; exact hx
      · rw [wv_u_no _ _ (by omega), wv_u_no _ _ (by omega), wv_u_at]; exact hy
    · constructor
      · rw [wv_u_no _ _ (by omega), wv_u_no _ _ (by omega), wv_u_no _ _ (by omega), wv_u_no _ _ (by omega)]; exact (v6 j (by omega)).1
      · rw [wv_u_no _ _ (by omega), wv_u_no _ _ (by omega), wv_u_no _ _ (by omega), wv_u_no _ _ (by omega)]; exact (v6 j (by omega)).2
