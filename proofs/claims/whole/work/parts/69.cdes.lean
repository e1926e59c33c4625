/-! ===== the class: design ===== -/
/-- an array filled -/
def wg_f (r : Nat) (v : Int32) (I : Nat → Nat → Int32) : Nat → Nat → Nat → Int32
  | 0 => I
  | j + 1 => wv_u (wg_f r v I j) r j v
def wj_c16 : wv_c1 := fun as T N I L R q => ∃ (r n : Nat) (v : Int32), as = [.ref r, .int v] ∧ T r = some (.inr (0, n)) ∧ n ≤ 3000 ∧ r < 1099511627776 ∧ q (.inl none) T N (wg_f r v I n) L R 0 0
def wj_h16 (r n : Nat) (v : Int32) (T : wv_T) (N : Nat) (I : Nat → Nat → Int32) (L : Nat → Nat → Int64) (R : Nat → Nat → Option Nat) : Nat → Option (Nat → wv_P) := fun pc =>
  if pc = 5 then some (fun m lv st T1 N1 I1 L1 R1 nc ns => ∃ j : Nat, lv = [some (.ref r), some (.int v), some (.int (Int32.ofNat j)), some (.int (Int32.ofNat n)), none, none] ∧ st = [] ∧ T1 = T ∧ N1 = N ∧ I1 = wg_f r v I j ∧ L1 = L ∧ R1 = R ∧ nc = 0 ∧ ns = 0 ∧ j ≤ n ∧ m = n - j)
  else none
set_option maxRecDepth 100000 in
theorem wj_m16 : ∃ cb ci np, pt_mt 16 = some (15, cb, 4, false, none, ci, np) := ⟨_, _, _, rfl⟩
set_option maxRecDepth 100000 in
theorem wj_fill {sc : pt_Sc} {d : Nat} : wv_C wm_fx sc (d + 1) 16 wj_c16 := by
  rintro as T N I L R q ⟨r, n, v, rfl, hT, hn, hr, h⟩ w HR
  obtain ⟨cb, ci, np, hm⟩ := wj_m16
  refine wv_meth (hh := none) rfl (sp := fun _ _ _ _ _ _ _ _ => False) (hd := wj_h16 r n v T N I L R) (n := 100) (n1 := 100) hm zc_16 rfl (fun k as T N I L R q h => by cases h) ?_ ?_ HR
  · exact ⟨_, _, hT, n, 0, rfl, rfl, rfl, rfl, rfl, rfl, rfl, rfl, rfl, Nat.zero_le _, rfl⟩
  · intro pc P hP m lv st T1 N1 I1 L1 R1 nc ns hh
    unfold wj_h16 at hP
    split at hP
    · cases hP
      rename_i hpc
      subst hpc
      obtain ⟨j, rfl, rfl, rfl, rfl, rfl, rfl, rfl, rfl, rfl, hj, hm⟩ := hh
      have ej := wL_of (n := j) (by omega)
      have en := wL_of (n := n) (by omega)
      refine ⟨?_, ?_⟩
      · intro hc
        have e : j = n := by rw [wi_le, ej, en] at hc; omega
        subst e
        exact h
      · intro hc
        have hlt : j < n := by rw [wi_le, ej, en] at hc; omega
        refine ⟨n, hT, ⟨by rw [wi_le, ej, wi_0]; omega, by rw [ej]; omega⟩, hr, ?_⟩
        refine ⟨n - (j + 1), by omega, j + 1, by rw [← wq_4s]; rfl, rfl, rfl, rfl, ?_, rfl, rfl, rfl, rfl, by omega, rfl⟩
        have e2 : (Int32.ofNat j).toNatClampNeg = j := by rw [wi_nat, ej]; omega
        rw [e2]
        rfl
    · cases hP
def wd_c59 : wv_c1 := fun as T N I L R q => ∃ (C : Nat) (k : Int32), as = [.ref C, .int k] ∧ T C = some (.inl 10) ∧ q (.inl (some (.int (Int32.ofInt 2 * (Int32.ofInt 1 + I C 8 + k))))) T N I L R 0 0
set_option maxRecDepth 100000 in
theorem wd_m59 : ∃ cb ci np, pt_mt 59 = some (11, cb, 2, false, some .int, ci, np) := ⟨_, _, _, rfl⟩
set_option maxRecDepth 100000 in
theorem wd_latchLiteral {sc : pt_Sc} {d : Nat} : wv_C wm_fx sc (d + 1) 59 wd_c59 := by
  rintro as T N I L R q ⟨C, k, rfl, hC, h⟩ w HR
  obtain ⟨cb, ci, np, hm⟩ := wd_m59
  refine wv_meth (hh := none) rfl (sp := fun _ _ _ _ _ _ _ _ => False) (hd := fun _ => none) (n := 0) (n1 := 100) hm zc_59 rfl (fun k as T N I L R q h => by cases h) ?_ (fun pc P h => by cases h) HR
  exact ⟨hC, h⟩
/-- the class's latches stay as they are -/
def wd_l (C : Nat) (I : Nat → Nat → Int32) : Nat → Nat → Nat → Int32
  | 0 => I
  | j + 1 => wv_u (wv_u (wd_l C I j) (C + 3) j (Int32.ofInt 2 * (Int32.ofInt 1 + wd_l C I j C 8 + Int32.ofNat j))) (C + 4) j (vp_nar .boolean (Int32.ofInt 0))
def wd_0 (C : Nat) (a b : Int32) (I : Nat → Nat → Int32) : Nat → Nat → Int32 := wv_u (wv_u (wv_u I C 8 a) C 9 b) C 10 (Int32.ofInt 0)
/-- a new design -/
def wd_new (C : Nat) (a b : Int32) (I : Nat → Nat → Int32) : Nat → Nat → Int32 := wv_u (wg_f (C + 5) (Int32.ofInt 2) (wd_l C (wd_0 C a b I) b.toNatClampNeg) 6) C 7 (Int32.ofInt 0)
def wd_c58 : wv_c1 := fun as T N I L R q => ∃ (C : Nat) (a b : Int32), as = [.ref C, .int a, .int b] ∧ wd_D T R C ∧ C < 1099511000000 ∧ 0 ≤ b.toInt ∧ b.toInt ≤ 5 ∧ q (.inl none) T N (wd_new C a b I) L R 0 0
def wd_h58 (C : Nat) (a b : Int32) (T : wv_T) (N : Nat) (I : Nat → Nat → Int32) (L : Nat → Nat → Int64) (R : Nat → Nat → Option Nat) : Nat → Option (Nat → wv_P) := fun pc =>
  if pc = 17 then some (fun m lv st T1 N1 I1 L1 R1 nc ns => ∃ j : Nat, lv = [some (.ref C), some (.int a), some (.int b), some (.int (Int32.ofNat j)), none, none, none] ∧ st = [] ∧ T1 = T ∧ N1 = N ∧ I1 = wd_l C (wd_0 C a b I) j ∧ L1 = L ∧ R1 = R ∧ nc = 0 ∧ ns = 0 ∧ j ≤ b.toNatClampNeg ∧ m = 40 - j)
  else none
set_option maxRecDepth 100000 in
theorem wd_m58 : ∃ cb ci np, pt_mt 58 = some (11, cb, 4, false, none, ci, np) := ⟨_, _, _, rfl⟩
set_option maxRecDepth 100000 in
set_option maxHeartbeats 4000000 in
theorem wd_reset {sc : pt_Sc} {d : Nat} : wv_C wm_fx sc (d + 1 + 1) 58 wd_c58 := by
  rintro as T N I L R q ⟨C, a, b, rfl, hD, hC, hb0, hb5, h⟩ w HR
  obtain ⟨cb, ci, np, hm⟩ := wd_m58
  have eb : (b.toNatClampNeg : Int) = b.toInt := Int.toNat_of_nonneg hb0
  have k0 : C < 1099511627776 := by omega
  have k3 : C + 1 + 2 < 1099511627776 := by omega
  have k4 : C + 1 + 3 < 1099511627776 := by omega
  refine wv_meth (hh := none) rfl (sp := wv_sp [(59, wd_c59), (16, wj_c16)]) (hd := wd_h58 C a b T N I L R) (n := 100) (n1 := 100) hm zc_58 rfl (wv_sp_ok (fun q hq => by rcases List.mem_cons.mp hq with h | h; rw [h]; exact wd_latchLiteral; rw [List.mem_singleton.mp h]; exact wj_fill)) ?_ ?_ HR
  · refine ⟨⟨hD.1, k0⟩, ⟨hD.1, k0⟩, ⟨hD.1, k0⟩, ?_⟩
    exact ⟨40, 0, rfl, rfl, rfl, rfl, rfl, rfl, rfl, rfl, rfl, Nat.zero_le _, rfl⟩
  · intro pc P hP m lv st T1 N1 I1 L1 R1 nc ns hh
    unfold wd_h58 at hP
    split at hP
    · cases hP
      rename_i hpc
      subst hpc
      obtain ⟨j, rfl, rfl, rfl, rfl, rfl, rfl, rfl, rfl, rfl, hj, hm⟩ := hh
      have ej := wL_of (n := j) (by omega)
      refine ⟨?_, ?_⟩
      · intro hc
        have e : j = b.toNatClampNeg := by rw [wi_le, ej] at hc; omega
        subst e
        refine ⟨hD.1, _, hD.2.1 4 (by decide), ?_⟩
        refine ⟨C + 1 + 4, 6, _, rfl, hD.2.2.2.2.2.2.1, by omega, by omega, ?_⟩
        exact ⟨⟨hD.1, k0⟩, ⟨rfl, rfl⟩, h⟩
      · intro hc
        have hlt : j < b.toNatClampNeg := by rw [wi_le, ej] at hc; omega
        have e2 : (Int32.ofNat j).toNatClampNeg = j := by rw [wi_nat, ej]; omega
        have bj : 0 ≤ Int32.ofNat j ∧ (Int32.ofNat j).toInt < (5 : Nat) := ⟨by rw [wi_le, ej, wi_0]; omega, by rw [ej]; omega⟩
        refine ⟨hD.1, _, hD.2.1 2 (by decide), ?_⟩
        refine ⟨hD.1, C, _, rfl, hD.1, ?_⟩
        refine ⟨5, hD.2.2.2.2.1, bj, k3, ?_⟩
        refine ⟨hD.1, _, hD.2.1 3 (by decide), ?_⟩
        refine ⟨5, hD.2.2.2.2.2.1, bj, k4, ?_⟩
        refine ⟨40 - (j + 1), by omega, j + 1, by rw [← wq_4s]; rfl, rfl, rfl, rfl, ?_, rfl, rfl, rfl, rfl, by omega, rfl⟩
        rw [e2]
        rfl
    · cases hP
