/-! ===== the machine follows the pure one: every instruction but calls, returns and throws ===== -/
theorem pz_V_put {D : va_G} {cl : List vw_C} {cy : Nat → ClassId} {A : Nat → Prop} {H0 : Heap} {nk : Nat} {ad : Nat → Nat} {w w1 : List pz_C} {H H1 : Heap} {locs locs1 : List Loc} (hV : pz_V D cl cy A H0 nk ad w H locs) (h1 : va_P D cl (pz_w cy ad w1) H1) (h2 : va_D A (pz_w cy ad w1)) (h3 : va_S A H0 H1 locs1) (hl : w1.length = w.length) (ho : ∀ z ∈ w1, pz_oc w.length z) (hk : ∀ (a k n : Nat) (z : List (Nat × Value)), w1[a]? = some (Sum.inl (k, n, z)) → k < nk) : pz_V D cl cy A H0 nk ad w1 H1 locs1 :=
  ⟨h1, h2, h3, by rw [hl]; exact hV.2.2.2.1, by rw [hl]; exact ho, hk⟩
theorem pz_V_push {D : va_G} {cl : List vw_C} {cy : Nat → ClassId} {A : Nat → Prop} {H0 : Heap} {nk : Nat} {ad ad1 : Nat → Nat} {w : List pz_C} {x : pz_C} {H H1 : Heap} {locs locs1 : List Loc} (hV : pz_V D cl cy A H0 nk ad w H locs) (h1 : va_P D cl (pz_w cy ad1 (w ++ [x])) H1) (h2 : va_D A (pz_w cy ad1 (w ++ [x]))) (h3 : va_S A H0 H1 locs1) (hl : w.length < 1000000000) (ho : pz_oc w.length x) (hk : ∀ (k n : Nat) (z : List (Nat × Value)), x = Sum.inl (k, n, z) → k < nk) : pz_V D cl cy A H0 nk ad1 (w ++ [x]) H1 locs1 := by
  refine ⟨h1, h2, h3, by rw [List.length_append]; exact hl, fun z hz => ?_, pz_push_k hV.2.2.2.2.2 hk⟩
  rw [List.length_append]
  rcases List.mem_append.mp hz with h | h
  · exact pz_oc_mono (Nat.le_add_right _ _) (hV.2.2.2.2.1 z h)
  · rw [List.mem_singleton.mp h]
    exact pz_oc_mono (Nat.le_add_right _ _) ho
theorem pz_fs_o {N ci cj k : Nat} {fs : List Value} {v : Value} (hm : pz_oc N (.inr (ci, fs))) (hv : pz_o N v) : pz_oc N (.inr (cj, fs.set k v)) := fun u hu => by
  rcases List.mem_or_eq_of_mem_set hu with z | z
  · exact hm u z
  · rw [z]; exact hv
theorem pz_up_old {ad : Nat → Nat} {n q : Nat} (hn : n < 1099511627776) : ∀ i, i < n ∨ 1099511627776 ≤ i → va_up ad n q i = ad i := fun i h => va_up_ne _ _ (by omega)
theorem pz_cp_g (za zb : List (Nat × Value)) (sp dp : Nat) : ∀ (n j : Nat), pz_g (pz_cp za sp dp n zb) j = if dp ≤ j ∧ j < dp + n then pz_g za (sp + (j - dp)) else pz_g zb j
  | 0, j => by
    rw [if_neg (by omega)]
    rfl
  | n + 1, j => by
    unfold pz_cp
    rw [pz_ga, pz_cp_g za zb sp dp n j]
    by_cases h : j = dp + n
    · subst h
      rw [if_pos rfl, if_pos (by omega)]
      congr 1
      omega
    · rw [if_neg h]
      by_cases h2 : dp ≤ j ∧ j < dp + n
      · rw [if_pos h2, if_pos (by omega)]
      · rw [if_neg h2, if_neg (by omega)]
theorem pz_cp_o {N : Nat} {za zb : List (Nat × Value)} {sp dp : Nat} (ha : ∀ q ∈ za, pz_o N q.2) (hb : ∀ q ∈ zb, pz_o N q.2) : ∀ n : Nat, ∀ q ∈ pz_cp za sp dp n zb, pz_o N q.2
  | 0 => hb
  | n + 1 => pz_a_o (pz_g_o ha) (pz_cp_o ha hb n)
theorem pz_cp_I (za zb : List (Nat × Value)) (sp dp n : Nat) : (fun j => pz_I (pz_g (pz_cp za sp dp n zb) j)) = va_cpy (fun j => pz_I (pz_g za j)) (fun j => pz_I (pz_g zb j)) sp dp n := by
  funext j
  rw [pz_cp_g]
  unfold va_cpy
  split <;> rfl
theorem pz_cp_L (za zb : List (Nat × Value)) (sp dp n : Nat) : (fun j => pz_L (pz_g (pz_cp za sp dp n zb) j)) = va_cpy (fun j => pz_L (pz_g za j)) (fun j => pz_L (pz_g zb j)) sp dp n := by
  funext j
  rw [pz_cp_g]
  unfold va_cpy
  split <;> rfl
/-- what holds outside the world -/
def pz_Ou (cl : List vw_C) (tk : Nat → FieldType) (oad : Nat → Nat) (OT : Nat → Option pz_C) (SF : List (String × String × String × Value)) (RS : List (String × Nat × String × Nat)) (A : Nat → Prop) (E2 : List Cond) (U : State) (H : Heap) : Prop :=
  vx_Zq Bundle.tN "UNASSIGNED_STACK" Bundle.steD A U H ∧ vx_Zq Bundle.tN "SUPPRESSED_SENTINEL" Bundle.listD A U H ∧ (∀ x ∈ E2, va_Nw x U) ∧ (∀ (i : Nat) (x : pz_C), OT i = some x → pz_od cl tk oad A U H (1099511627776 + i) x) ∧ (∀ q ∈ SF, va_Z q.1 q.2.1 q.2.2.1 (pz_v oad q.2.2.2) A U H) ∧ ∀ q ∈ RS, vk_R q.1 q.2.1 q.2.2.1 (oad (1099511627776 + q.2.2.2)) U
theorem pz_v_out {ad oad : Nat → Nat} (hoa : ∀ i, 1099511627776 ≤ i → ad i = oad i) {v : Value} (h : pz_o 0 v) : pz_v ad v = pz_v oad v := by
  cases v with
  | ref j => exact congrArg Value.ref (hoa j ((h j rfl).elim (fun z => absurd z (Nat.not_lt_zero _)) id))
  | _ => rfl
section PZU0
variable {p : Program} {l : Launch} {e : Env} {R : Room} {s : State} {m : MethodId} {args : Array Value} {below : List Frame} {meth : Method} {c : Code} {H : Heap} {locs : List Loc} {cells slots : Nat} {Q : State → Prop} {cc : ByteArray} {ad oad : Nat → Nat} {nL pc : Nat} {lv : List (Nat × Value)}
variable {D : va_G} {cl : List vw_C} {tys : List (ClassId × FieldType)} {cy : Nat → ClassId} {A : Nat → Prop} {w : List pz_C} {own : String} {tk : Nat → FieldType} {OT : Nat → Option pz_C}
theorem pz_nat : nativeFrameWords "java/lang/System" "arraycopy" 5 ≤ 150 := by decide +kernel
set_option maxHeartbeats 1000000 in
theorem pz_copy_ok {nk index a b ka na kb nb : Nat} {za zb : List (Nat × Value)} {n sp dp : Int32} {r : List Value} (hx : p.tables.exec = Jvm.exec) (hb : c.code = cc) (hml : c.maxLocals = nL) (hown : s.vm.findClass own = some m.cls) (g1 : (Cond.methodLink own index arraycopyName).before args s = true) (g2 : (Cond.native arraycopyName).before args s = true) (g3 : (Cond.static arraycopyName).before args s = true) (g4 : (Cond.initialized "java/lang/System").before args s = true) (hK : va_K D cl tys s) (hT : pz_T tk nk cy tys) (hV : pz_V D cl cy A s.heap nk ad w H locs) (ou1 : ∀ (i : Nat) (x : pz_C), OT i = some x → pz_od cl tk oad A s s.heap (1099511627776 + i) x) (hoa : ∀ i, 1099511627776 ≤ i → ad i = oad i) (hwa : pz_q OT w a = some (.inl (ka, na, za))) (hwb : w[b]? = some (.inl (kb, nb, zb)))
    (hq : ka = kb ∧ ka < 4 ∧ (a < 1099511627776 ∨ ka = 3) ∧ ¬ sp < 0 ∧ ¬ dp < 0 ∧ ¬ n < 0 ∧ sp.toNatClampNeg + n.toNatClampNeg ≤ na ∧ dp.toNatClampNeg + n.toNatClampNeg ≤ nb ∧ (r.map fun v => v.category).sum ≤ 8 ∧ (ka < 2 ∨ (List.range n.toNatClampNeg).all (fun i => fits (tk ka) (.int (pz_I (pz_g za (sp.toNatClampNeg + i))))) = true)) (hRf : 1 ≤ R.frames) (hRl : 200 ≤ R.locals) (hdg : decode cc pc = .ok (.invokestatic index, 3)) (hso : ∀ z ∈ Value.int n :: .int dp :: .ref b :: .int sp :: .ref a :: r, pz_o w.length z)
    (kk : ∀ (ad1 : Nat → Nat) (H1 : Heap) (locs1 : List Loc), (∀ i, i < w.length ∨ 1099511627776 ≤ i → ad1 i = ad i) → pz_V D cl cy A s.heap nk ad1 (w.set b (.inl (kb, nb, pz_cp za sp.toNatClampNeg dp.toNatClampNeg n.toNatClampNeg zb))) H1 locs1 → w.length ≤ (w.set b (.inl (kb, nb, pz_cp za sp.toNatClampNeg dp.toNatClampNeg n.toNatClampNeg zb))).length → (∀ z ∈ r, pz_o (w.set b (.inl (kb, nb, pz_cp za sp.toNatClampNeg dp.toNatClampNeg n.toNatClampNeg zb))).length z) → pz_W p l e R s m args below meth c H1 locs1 (cells + 0) (slots + 0) Q ad1 nL (pc + 3) lv r) :
    pz_W p l e R s m args below meth c H locs cells slots Q ad nL pc lv (.int n :: .int dp :: .ref b :: .int sp :: .ref a :: r) := by
  obtain ⟨hP, hD, hS, hlen, hwo, hwk⟩ := id hV
  obtain ⟨rfl, q2, q3, q4, q5, q6, q7, q8, q9, q10⟩ := hq
  have hmb := hwo _ (List.mem_of_getElem? hwb)
  have hsum : ((r.map (pz_v ad)).map fun v => v.category).sum + (nativeFrameWords "java/lang/System" "arraycopy" 5 + 11) ≤ R.locals := by
    have hz : ((r.map (pz_v ad)).map fun v => v.category) = r.map fun v => v.category := by
      rw [List.map_map]
      exact List.map_congr_left fun v _ => pz_cat ad v
    rw [hz]
    have := pz_nat
    omega
  have hro : ∀ z ∈ r, pz_o w.length z := pz_tl (pz_tl (pz_tl (pz_tl (pz_tl hso))))
  have hfit : ¬ ka < 2 → ∀ i, i < n.toNatClampNeg → fits (tk ka) (.int (pz_I (pz_g za (sp.toNatClampNeg + i)))) = true := fun z i hi => by
    rcases q10 with h | h
    · exact absurd h z
    · exact List.all_eq_true.mp h i (List.mem_range.mpr hi)
  have hgo : (∀ q ∈ za, pz_o w.length q.2) → ∀ (H1 : Heap) (locs1 : List Loc), va_P D cl ((pz_w cy ad w).set b (ad b, pz_c cy ad (.inl (ka, nb, pz_cp za sp.toNatClampNeg dp.toNatClampNeg n.toNatClampNeg zb)))) H1 → va_D A ((pz_w cy ad w).set b (ad b, pz_c cy ad (.inl (ka, nb, pz_cp za sp.toNatClampNeg dp.toNatClampNeg n.toNatClampNeg zb)))) → va_S A s.heap H1 locs1 → pz_W p l e R s m args below meth c H1 locs1 (cells + 0) (slots + 0) Q ad nL (pc + 3) lv r := fun hza H1 locs1 h1 h2 h3 => by
    rw [pz_w_set] at h1 h2
    exact kk ad H1 locs1 (fun _ _ => rfl) (pz_V_put hV h1 h2 h3 List.length_set (pz_set_o hwo (pz_cp_o hza hmb _)) (pz_set_k hwk (fun k n z hz => by cases hz; exact hwk _ _ _ _ hwb))) (by rw [List.length_set]; exact Nat.le_refl _) (by rw [List.length_set]; exact hro)
  intro ls hl
  have hmls : c.maxLocals = ls.size := hml.trans hl.1.symm
  obtain ⟨t0, t1, t2, t3, -, t5⟩ := hT
  have hkb := t5 _ (hwk _ _ _ _ hwb)
  rcases pz_q_or hwa with hwa | ⟨hB, hwa⟩
  · have hma := hwo _ (List.mem_of_getElem? hwa)
    rcases (show ka = 0 ∨ ka = 1 ∨ ka = 2 ∨ ka = 3 by omega) with rfl | rfl | rfl | rfl
    · refine va_copyi hx hb hmls hown g1 g2 g3 g4 hK hP hD hS a b 0 0 (pz_w_at hwa) (pz_w_at hwb) hkb hkb (by rw [t0]; rfl) q4 q5 q6 q7 q8 (fun i _ => by rw [t0]; rfl) hRf hsum hdg (fun H1 locs1 h1 h2 h3 => ?_)
      rw [← pz_cp_I] at h1 h2
      exact hgo hma H1 locs1 h1 h2 h3 ls hl
    · refine va_copyl hx hb hmls hown g1 g2 g3 g4 hK hP hD hS a b 1 1 (pz_w_at hwa) (pz_w_at hwb) hkb hkb (by rw [t1]; rfl) q4 q5 q6 q7 q8 (fun i _ => by rw [t1]; rfl) hRf hsum hdg (fun H1 locs1 h1 h2 h3 => ?_)
      rw [← pz_cp_L] at h1 h2
      exact hgo hma H1 locs1 h1 h2 h3 ls hl
    · refine va_copyi hx hb hmls hown g1 g2 g3 g4 hK hP hD hS a b 2 2 (pz_w_at hwa) (pz_w_at hwb) hkb hkb (by rw [t2]; rfl) q4 q5 q6 q7 q8 (hfit (by decide)) hRf hsum hdg (fun H1 locs1 h1 h2 h3 => ?_)
      rw [← pz_cp_I] at h1 h2
      exact hgo hma H1 locs1 h1 h2 h3 ls hl
    · refine va_copyi hx hb hmls hown g1 g2 g3 g4 hK hP hD hS a b 3 3 (pz_w_at hwa) (pz_w_at hwb) hkb hkb (by rw [t3]; rfl) q4 q5 q6 q7 q8 (hfit (by decide)) hRf hsum hdg (fun H1 locs1 h1 h2 h3 => ?_)
      rw [← pz_cp_I] at h1 h2
      exact hgo hma H1 locs1 h1 h2 h3 ls hl
  · have hk3 : ka = 3 := q3.elim (fun z => absurd hB (Nat.not_le.mpr z)) id
    subst hk3
    obtain ⟨-, hzo, hva⟩ := ou1 _ _ hwa
    rw [Nat.add_sub_cancel' hB, t3] at hva
    rw [t3] at hkb
    have hf3 := hfit (by decide)
    rw [t3] at hf3
    show W p l e R s m args below meth c H locs cells slots Q (F0 m pc ls (.int n :: .int dp :: .ref (ad b) :: .int sp :: .ref (ad a) :: r.map (pz_v ad)))
    rw [hoa a hB]
    refine vk_copyt (f := fun j => pz_I (pz_g za j)) hx hb hmls hown g1 g2 g3 g4 hK hP hD hS hva b 3 (pz_w_at hwb) hkb q4 q5 q6 q7 q8 hf3 hRf hsum hdg (fun H1 locs1 h1 h2 h3 => ?_)
    rw [← pz_cp_I] at h1 h2
    exact hgo (fun q hq => pz_o_mono (Nat.zero_le _) (hzo q hq)) H1 locs1 h1 h2 h3 ls hl
end PZU0
