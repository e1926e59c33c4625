/-! ===== the class: the class of a row ===== -/
/-- n letters from i on -/
def kz (v : Nat → Nat) (i : Nat) : Nat → List Nat
  | 0 => []
  | n + 1 => kz v i n ++ [v (i + n)]
theorem kz_w {v : Nat → Nat} {i : Nat} : ∀ n, (∀ k, i ≤ k → k < i + n → v k < 64) → df_w (kz v i n)
  | 0, _ => df_w_nil
  | n + 1, h => fun x hx => by
    rcases List.mem_append.mp hx with z | z
    · exact kz_w n (fun k h1 h2 => h k h1 (by omega)) x z
    · rw [List.mem_singleton.mp z]
      exact h (i + n) (by omega) (by omega)
theorem kz_l {v : Nat → Nat} {i : Nat} : ∀ n, (kz v i n).length = n
  | 0 => rfl
  | n + 1 => by
    show (kz v i n ++ [v (i + n)]).length = n + 1
    rw [List.length_append, kz_l n]
    rfl
def kc_l17 (E X i j c p : Nat) : List (Option Value) := [some (.ref E), some (.ref X), some (.int (Int32.ofNat i)), some (.int (Int32.ofNat j)), some (.int (Int32.ofNat c)), some (.int (Int32.ofNat p)), none, none, none, none]
def kc_h217 (E X i j : Nat) (mv : Nat → Nat → Nat) (v : Nat → Nat) (T : wv_T) (N : Nat) (I : Nat → Nat → Int32) (L : Nat → Nat → Int64) (R : Nat → Nat → Option Nat) : Nat → Option (Nat → wv_P) := fun pc =>
  if pc = 6 then some (fun mm lv st T1 N1 I1 L1 R1 nc ns => ∃ n : Nat, lv = kc_l17 E X i j (df_run mv 0 (kz v i n)) (i + n) ∧ st = [] ∧ T1 = T ∧ N1 = N ∧ R1 = R ∧ nc = 0 ∧ ns = 0 ∧ I1 = I ∧ L1 = L ∧ i + n ≤ j ∧ mm = j - (i + n))
  else none
def kc_c217 : wv_c1 := fun as T N I L R q => ∃ (E B g K X len i j : Nat) (mv : Nat → Nat → Nat) (v : Nat → Nat), as = [.ref E, .ref X, .int (Int32.ofNat i), .int (Int32.ofNat j)] ∧ kc_D T R E ∧ kc_B T R E B ∧ I E 5 = Int32.ofNat g ∧ g < 64 ∧ K ≤ 65 ∧ (∀ c v, c < K → v < 64 → I B (c * 64 + (v &&& g)) = Int32.ofNat (mv c v)) ∧ df_ok K mv ∧ T X = some (.inr (0, len)) ∧ i ≤ j ∧ j ≤ len ∧ len < 1000000 ∧ (∀ k, i ≤ k → k < j → I X k = Int32.ofNat (v k) ∧ v k < 64) ∧ q (.inl (some (.int (Int32.ofNat (df_run mv 0 (kz v i (j - i))))))) T N I L R 0 0
set_option maxRecDepth 100000 in
theorem wM_217 : ∃ cb ci np, pt_mt 217 = some (10, cb, 6, false, some .int, ci, np) := ⟨_, _, _, rfl⟩
set_option maxRecDepth 100000 in
set_option maxHeartbeats 4000000 in
theorem kc_ofRow {sc : pt_Sc} {d : Nat} : wv_C wm_fx sc (d + 1 + 1) 217 kc_c217 := by
  rintro as T N I L R q ⟨E, B, g, K, X, len, i, j, mv, v, rfl, hD, hB, h5, hg, hK, ht, ho, hX, hij, hj, hl, hv, h⟩ w0 HR
  obtain ⟨cb, ci, np, hm⟩ := wM_217
  have hc218 : wv_C wm_fx sc (d + 1) 218 kc_c218 := wv_C_deep (by omega) (kc_behind (d := d))
  refine wv_meth (hh := none) rfl (sp := wv_sp [(218, kc_c218)]) (hd := kc_h217 E X i j mv v T N I L R) (n := 300) (n1 := 300) hm zc_217 rfl (wv_sp_ok (fun q hq => by rw [List.mem_singleton.mp hq]; exact hc218)) ?_ ?_ HR
  · exact ⟨_, 0, rfl, rfl, rfl, rfl, rfl, rfl, rfl, rfl, rfl, by omega, rfl⟩
  · intro pc P hP m lv st T1 N1 I1 L1 R1 nc ns hh
    unfold kc_h217 at hP
    by_cases p6 : pc = 6
    · rw [if_pos p6] at hP
      cases hP
      subst p6
      obtain ⟨n, rfl, rfl, rfl, rfl, rfl, rfl, rfl, rfl, rfl, hn, rfl⟩ := hh
      have en := wi_on (n := i + n) (by omega)
      have enn := wi_onn (n := i + n) (by omega)
      have ej := wi_on (n := j) (by omega)
      refine ⟨fun w => ?_, fun w => ?_⟩
      · rw [wi_le, en, ej] at w
        have e : n = j - i := by omega
        subst e
        exact h
      rw [wi_le, en, ej] at w
      obtain ⟨v1, v2⟩ := hv (i + n) (by omega) (by omega)
      have hw := kz_w (v := v) (i := i) n (fun k k1 k2 => (hv k k1 (by omega)).2)
      have hc := df_run_lt ho _ hw 0 ho.1
      refine ⟨_, hX, pp_b (c := len) (by omega) (by omega), ?_⟩
      rw [enn, v1]
      refine ⟨hD.1, E, B, df_run mv 0 (kz v i n), v (i + n), g, rfl, hD, hB, h5, hg, v2, by omega, ?_⟩
      rw [ht _ _ hc v2]
      refine ⟨j - (i + (n + 1)), by omega, n + 1, ?_, rfl, rfl, rfl, rfl, rfl, rfl, rfl, rfl, by omega, rfl⟩
      have e1 : df_run mv 0 (kz v i (n + 1)) = mv (df_run mv 0 (kz v i n)) (v (i + n)) := df_run_app mv (kz v i n) [v (i + n)] 0
      rw [e1]
      unfold kc_l17
      rw [← Nat.add_assoc, ← wq_4s (i + n)]
      rfl
    rw [if_neg p6] at hP
    cases hP
