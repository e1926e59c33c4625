/-! ===== the machine follows the pure one: every instruction but calls, returns and throws ===== -/
section PZU
variable {p : Program} {l : Launch} {e : Env} {R : Room} {s : State} {m : MethodId} {args : Array Value} {below : List Frame} {meth : Method} {c : Code} {H : Heap} {locs : List Loc} {cells slots : Nat} {Q : State → Prop} {cc : ByteArray} {ad oad : Nat → Nat} {nL pc : Nat} {lv : List (Nat × Value)}
variable {D : va_G} {cl : List vw_C} {tys : List (ClassId × FieldType)} {cy : Nat → ClassId} {A : Nat → Prop} {w : List pz_C} {U E2 : List Cond} {nm : Nat → String} {tk : Nat → FieldType} {OT : Nat → Option pz_C} {ST : Nat → Nat → Option Value} {LS : Nat → Nat → Option Nat} {SF : List (String × String × String × Value)} {RS : List (String × Nat × String × Nat)}
variable {F : Nat → Nat → Option (Nat × Nat × Bool × FieldType)} {K KA : Nat → Nat → Option Nat} {G : Nat → Nat → Option Value} {M : Nat → Nat → Option (Nat × Nat)} {fz : Nat → List Value}
set_option maxHeartbeats 4000000 in
theorem pz_S_ok {nk o len c1 s1 : Nat} {ini : Bool} {ins : Instr} {st st1 : List Value} {w1 : List pz_C} (tb : pz_Tb U nm cl tk nk F K KA G M fz ST LS SF RS) (hx : p.tables.exec = Jvm.exec) (hb : c.code = cc) (hts : ∀ w ∈ U, w.before args s = true) (hown : s.vm.findClass (nm o) = some m.cls) (hK : va_K D cl tys s) (hT : pz_T tk nk cy tys) (hV : pz_V D cl cy A s.heap nk ad w H locs) (hA : ∀ q, s.heap.size ≤ q → A q)
    (hlo : ∀ z ∈ lv, pz_o w.length z.2) (hso : ∀ z ∈ st, pz_o w.length z) (hini : ini = true → meth.name = "<init>") (hml : c.maxLocals = nL) (hRf : 1 ≤ R.frames) (hRl : 200 ≤ R.locals) (hOu : pz_Ou cl tk oad OT SF RS A E2 s s.heap) (hoa : ∀ i, 1099511627776 ≤ i → ad i = oad i) (hdg : decode cc pc = .ok (ins, len)) (h : pz_S cl tk F K KA G M fz OT ST LS ins len o ini w st = some (st1, w1, c1, s1)) (hc : cells + c1 ≤ R.cells) (hs : slots + s1 ≤ R.slots)
    (kk : ∀ (ad1 : Nat → Nat) (H1 : Heap) (locs1 : List Loc), (∀ i, i < w.length ∨ 1099511627776 ≤ i → ad1 i = ad i) → pz_V D cl cy A s.heap nk ad1 w1 H1 locs1 → w.length ≤ w1.length → (∀ z ∈ st1, pz_o w1.length z) → pz_W p l e R s m args below meth c H1 locs1 (cells + c1) (slots + s1) Q ad1 nL (pc + len) lv st1) :
    pz_W p l e R s m args below meth c H locs cells slots Q ad nL pc lv st := by
  obtain ⟨hP, hD, hS, hlen, hwo, hwk⟩ := id hV
  have hlen2 : w.length < 1099511627776 := by omega
  obtain ⟨tb1, tb2, tb3, tb4, tb5, tb6, tb7, tb8, tb9, tb10, tb11, tb12, tb13⟩ := tb
  obtain ⟨-, -, -, ou1, ou2, ou3⟩ := hOu
  unfold pz_S at h
  split at h
  · -- getfield
    split at h
    · rename_i hl3
      subst hl3
      split at h
      · rename_i hF
        split at h
        · rename_i hw
          split at h
          · rename_i hcj
            subst hcj
            split at h
            · rename_i hv
              cases h
              obtain ⟨C, T, N, g1, g2, g3, g4, g5, g6⟩ := tb2 _ _ _ _ _ _ hF
              obtain ⟨f1, -⟩ := tb1 _ _ _ _ g1
              rcases pz_q_or hw with hw | ⟨hB, hw⟩
              · exact pz_get_ok hx hb hts f1 hown hK hP hw g1 g2 (hts _ g3) hv hdg (kk ad H locs (fun _ _ => rfl) hV (Nat.le_refl _) (pz_cn (hwo _ (List.mem_of_getElem? hw) _ (List.mem_of_getElem? hv)) (pz_tl hso)))
              · have hd := ou1 _ _ hw
                rw [Nat.add_sub_cancel' hB] at hd
                exact pz_oget_ok hx hb hown hS hd g1 hB hoa (hts _ g3) hv hdg (fun ho => kk ad H locs (fun _ _ => rfl) hV (Nat.le_refl _) (pz_cn (pz_o_mono (Nat.zero_le _) ho) (pz_tl hso)))
            · cases h
          · cases h
        · cases h
      · cases h
    · cases h
  · -- putfield
    split at h
    · rename_i hl3
      subst hl3
      split at h
      · rename_i hF
        split at h
        · rename_i hw
          split at h
          · rename_i hcj
            obtain ⟨hcj, hfi, hkl, hn, hf⟩ := hcj
            subst hcj
            cases h
            obtain ⟨C, T, N, g1, g2, g3, g4, g5, g6⟩ := tb2 _ _ _ _ _ _ hF
            obtain ⟨f1, ⟨ty0, f2, -⟩, f3, -, -⟩ := tb1 _ _ _ _ g1
            have hm := hwo _ (List.mem_of_getElem? hw)
            exact pz_put_ok hx hb hts f1 f2 f3 hown hK hP hD hS hw g1 g2 (hts _ g3) g4 (fun z => ⟨hini (hfi z), g5 z⟩) g6 hn hf hkl hdg (fun H1 locs1 h1 h2 h3 => kk ad H1 locs1 (fun _ _ => rfl) (pz_V_put hV h1 h2 h3 List.length_set (pz_set_o hwo (pz_fs_o hm (pz_hd hso))) (pz_set_k hwk (fun k n z hz => by cases hz))) (by rw [List.length_set]; exact Nat.le_refl _) (by rw [List.length_set]; exact pz_tl (pz_tl hso)))
          · cases h
        · cases h
      · cases h
    · cases h
  · -- arraylength
    split at h
    · rename_i hl3
      subst hl3
      split at h
      · split at h
        · rename_i hw
          cases h
          rcases pz_q_or hw with hw | ⟨hB, hw⟩
          · exact pz_alen_ok hx hb hK hT (hwk _ _ _ _ hw) hP hw hdg (kk ad H locs (fun _ _ => rfl) hV (Nat.le_refl _) (pz_cn pz_o_i (pz_tl hso)))
          · have hd := ou1 _ _ hw
            rw [Nat.add_sub_cancel' hB] at hd
            exact pz_olen_ok hx hb hS hd hB hoa hdg (kk ad H locs (fun _ _ => rfl) hV (Nat.le_refl _) (pz_cn pz_o_i (pz_tl hso)))
        · cases h
      · cases h
    · cases h
  · -- newarray
    split at h
    · rename_i hl3
      subst hl3
      split at h
      · rename_i hak
        split at h
        · rename_i hq
          obtain ⟨q1, q2, q3⟩ := hq
          cases h
          have hk4 : ∀ {aty : ArrayType} {k : Nat}, pz_ak aty = some k → k < nk := fun {aty k} z => by
            have := tb5.1
            cases aty <;> simp [pz_ak] at z <;> omega
          have harr : ∀ {aty : ArrayType} {k : Nat}, pz_ak aty = some k → (Cond.arrayClass (newarray.typeOf aty)).before args s = true := fun {aty k} z => by
            obtain ⟨-, a1, a2, a3, a4⟩ := tb5
            cases aty <;> first | (simp [pz_ak] at z; done) | exact hts _ a1 | exact hts _ a2 | exact hts _ a3 | exact hts _ a4
          exact pz_newa_ok hx hb (harr hak) hK hT hak (hk4 hak) hP hD hS hA q2 rfl q3 hc hs hlen2 hwo hlo (pz_tl hso) hdg (fun q H1 h1 h2 h3 => kk _ H1 locs (pz_up_old hlen2) (pz_V_push hV h1 h2 h3 q1 (fun z hz => by cases hz) (fun k n z hz => by cases hz; exact hk4 hak)) (by rw [List.length_append]; omega) (by rw [List.length_append]; exact pz_cn (fun i hi => by cases hi; exact Or.inl (Nat.lt_succ_self _)) (fun z hz => pz_o_mono (Nat.le_add_right _ _) (pz_tl hso z hz))))
        · cases h
      · cases h
    · cases h
  · -- anewarray
    split at h
    · rename_i hl3
      obtain ⟨rfl, hi65⟩ := hl3
      split at h
      · rename_i hka
        split at h
        · rename_i hq
          obtain ⟨q1, q2, q3⟩ := hq
          cases h
          obtain ⟨g0, C, g1, g2, g3⟩ := tb4.1 _ _ _ hka hi65
          exact pz_newq_ok hx hb hown (hts _ g2) (va_AO.of (hts _ g3)) hK hT g1 g0 hP hD hS hA q2 rfl q3 hc hs hlen2 hwo hlo (pz_tl hso) hdg (fun q H1 h1 h2 h3 => kk _ H1 locs (pz_up_old hlen2) (pz_V_push hV h1 h2 h3 q1 (fun z hz => by cases hz) (fun k n z hz => by cases hz; exact g0)) (by rw [List.length_append]; omega) (by rw [List.length_append]; exact pz_cn (fun i hi => by cases hi; exact Or.inl (Nat.lt_succ_self _)) (fun z hz => pz_o_mono (Nat.le_add_right _ _) (pz_tl hso z hz))))
        · cases h
      · cases h
    · cases h
  · -- multianewarray
    split at h
    · rename_i hl3
      obtain ⟨rfl, rfl⟩ := hl3
      split at h
      · rename_i hka
        split at h
        · rename_i hq
          obtain ⟨rfl, q1, q2, q3⟩ := hq
          cases h
          obtain ⟨g0, g1, g2, g3⟩ := tb4.2 _ _ _ hka
          refine pz_ma_ok hx hb hown (hts _ g2) (hts _ g3) (hts _ tb5.2.2.1) hK hT g1 g0 hP hD hS hA q2 q3 hc hs q1 hwo hlo (pz_tl (pz_tl hso)) hdg (fun ad1 H1 h0 h1 h2 h3 => kk ad1 H1 locs h0 ⟨h1, h2, h3, ?_, ?_, ?_⟩ ?_ ?_)
          · rw [List.length_append]
            show w.length + 3 ≤ _
            omega
          · rw [List.length_append]
            intro z hz
            rcases List.mem_append.mp hz with h | h
            · exact pz_oc_mono (Nat.le_add_right _ _) (hwo z h)
            · rcases List.mem_cons.mp h with rfl | h
              · intro q hq i hi
                left
                show i < w.length + 3
                rcases List.mem_cons.mp hq with rfl | hq
                · have h9 : w.length + 1 = i := Value.ref.inj hi
                  exact h9 ▸ Nat.add_lt_add_left (by decide) w.length
                · rcases List.mem_cons.mp hq with rfl | hq
                  · have h9 : w.length + 2 = i := Value.ref.inj hi
                    exact h9 ▸ Nat.add_lt_add_left (by decide) w.length
                  · cases hq
              · rcases List.mem_cons.mp h with rfl | h
                · intro q hq
                  cases hq
                · rcases List.mem_cons.mp h with rfl | h
                  · intro q hq
                    cases hq
                  · cases h
          · intro a k2 n z hz
            rcases Nat.lt_or_ge a w.length with hlt | hge
            · rw [List.getElem?_append_left hlt] at hz
              exact hwk _ _ _ _ hz
            · have hm := List.mem_of_getElem? (by rw [List.getElem?_append_right hge] at hz; exact hz)
              have h4 := tb5.1
              rcases List.mem_cons.mp hm with hm | hm
              · cases hm; exact g0
              · rcases List.mem_cons.mp hm with hm | hm
                · cases hm; omega
                · rcases List.mem_cons.mp hm with hm | hm
                  · cases hm; omega
                  · cases hm
          · rw [List.length_append]; omega
          · rw [List.length_append]
            exact pz_cn (fun i hi => by cases hi; exact Or.inl (by show w.length < w.length + 3; omega)) (fun z hz => pz_o_mono (Nat.le_add_right _ _) (pz_tl (pz_tl hso) z hz))
        · cases h
      · cases h
    · cases h
  · -- new
    split at h
    · rename_i hl3
      subst hl3
      split at h
      · rename_i hk0
        split at h
        · rename_i q1
          cases h
          obtain ⟨C, T, N, g1, g2, g3, g4⟩ := tb3 _ _ _ hk0
          obtain ⟨f1, ⟨ty0, f2, f3⟩, f4, f5, f6⟩ := tb1 _ _ _ _ g1
          exact pz_new_ok hx hb hts f1 f2 hown (hts _ g2) (hts _ g3) (hts _ g4) hK hP hD hS hA g1 f3 f5 f6 hc hs hlen2 hwo hlo hso hdg (fun q H1 h1 h2 h3 => kk _ H1 locs (pz_up_old hlen2) (pz_V_push hV h1 h2 h3 q1 (fun v hv i hi => absurd hi (f6 v hv i)) (fun k n z hz => by cases hz)) (by rw [List.length_append]; omega) (by rw [List.length_append]; exact pz_cn (fun i hi => by cases hi; exact Or.inl (Nat.lt_succ_self _)) (fun z hz => pz_o_mono (Nat.le_add_right _ _) (hso z hz))))
        · cases h
      · cases h
    · cases h
  · -- Object's own constructor
    split at h
    · rename_i hl3
      obtain ⟨hl3, hM⟩ := hl3
      subst hl3
      split at h
      · split at h
        · rename_i hsum
          cases h
          obtain ⟨g1, g2, g3⟩ := tb8 _ _ hM
          intro ls hl
          refine W.objInit hx hb hown (hts _ g1) (hts _ g2) (hts _ g3) rfl (hl.1.trans hml.symm) rfl hdg hRf ?_ (kk ad H locs (fun _ _ => rfl) hV (Nat.le_refl _) (pz_tl hso) ls hl)
          have hz : ∀ r : List Value, ((r.map (pz_v ad)).map fun v => v.category) = r.map fun v => v.category := fun r => by
            rw [List.map_map]
            exact List.map_congr_left fun v _ => pz_cat ad v
          exact Nat.le_trans (Nat.add_le_add_right (lv_room (by rw [hz]; exact hsum)) 12) (Nat.le_trans (by decide) hRl)
        · cases h
      · cases h
    · cases h
  · -- System.arraycopy
    split at h
    · rename_i hl3
      obtain ⟨hl3, hM⟩ := hl3
      subst hl3
      split at h
      · split at h
        · rename_i hwa hwb
          split at h
          · rename_i hq
            cases h
            obtain ⟨g1, g2, g3, g4⟩ := tb11 _ _ hM
            exact pz_copy_ok hx hb hml hown (hts _ g1) (hts _ g2) (hts _ g3) (hts _ g4) hK hT hV ou1 hoa hwa hwb hq hRf hRl hdg hso kk
          · cases h
        · cases h
      · cases h
    · split at h
      · rename_i hl3
        obtain ⟨hl3, hM⟩ := hl3
        subst hl3
        split at h
        · split at h
          · rename_i hq
            cases h
            obtain ⟨g1, g2, g3, g4⟩ := tb12 _ _ hM
            intro ls hl
            have hz : ∀ r : List Value, ((r.map (pz_v ad)).map fun v => v.category) = r.map fun v => v.category := fun r => by
              rw [List.map_map]
              exact List.map_congr_left fun v _ => pz_cat ad v
            exact va_mmin hx hb (hml.trans hl.1.symm) hown (hts _ g1) (hts _ g2) (hts _ g3) (hts _ g4) hRf (by rw [hz]; omega) hc hs hdg (kk ad H locs (fun _ _ => rfl) hV (Nat.le_refl _) (pz_cn pz_o_i (pz_tl (pz_tl hso))) ls hl)
          · cases h
        · cases h
      · split at h
        · rename_i hl3
          obtain ⟨hl3, hM⟩ := hl3
          subst hl3
          split at h
          · split at h
            · rename_i hq
              cases h
              obtain ⟨g1, g2, g3, g4⟩ := tb13 _ _ hM
              intro ls hl
              have hz : ∀ r : List Value, ((r.map (pz_v ad)).map fun v => v.category) = r.map fun v => v.category := fun r => by
                rw [List.map_map]
                exact List.map_congr_left fun v _ => pz_cat ad v
              exact va_mmax hx hb (hml.trans hl.1.symm) hown (hts _ g1) (hts _ g2) (hts _ g3) (hts _ g4) hRf (by rw [hz]; omega) hc hs hdg (kk ad H locs (fun _ _ => rfl) hV (Nat.le_refl _) (pz_cn pz_o_i (pz_tl (pz_tl hso))) ls hl)
            · cases h
          · cases h
        · cases h
  · -- getstatic
    split at h
    · rename_i hl3
      subst hl3
      split at h
      · rename_i hST
        cases h
        obtain ⟨g1, C, n, d, g2, g3⟩ := tb9 _ _ _ hST
        intro ls hl
        have hq := kk ad H locs (fun _ _ => rfl) hV (Nat.le_refl _) (pz_cn (pz_o_mono (Nat.zero_le _) g1) hso) ls hl
        rw [List.map_cons, pz_v_out hoa g1] at hq
        exact va_gets hx hb (ou2 _ g2) hS hown (hts _ g3) (fun x h => h) hdg hq
      · cases h
    · cases h
  · -- ldc
    split at h
    · rename_i hl3
      subst hl3
      split at h
      · rename_i hG
        cases h
        intro ls hl
        exact lv_ldc hx hb hown (hts _ (tb6 _ _ _ hG)) hdg (kk ad H locs (fun _ _ => rfl) hV (Nat.le_refl _) (pz_cn pz_o_i hso) ls hl)
      · split at h
        · rename_i i hLS
          cases h
          obtain ⟨tx, g1⟩ := tb10 _ _ _ hLS
          intro ls hl
          have ho : pz_o 0 (.ref (1099511627776 + i)) := fun j hj => by cases hj; exact Or.inr (Nat.le_add_right _ _)
          have hq := kk ad H locs (fun _ _ => rfl) hV (Nat.le_refl _) (pz_cn (pz_o_mono (Nat.zero_le _) ho) hso) ls hl
          rw [List.map_cons, pz_v_out hoa ho] at hq
          exact va_ldcS hx hb hown (ou3 _ g1) hdg hq
        · cases h
      · cases h
    · cases h
  · -- ldc2_w
    split at h
    · rename_i hl3
      subst hl3
      split at h
      · rename_i hG
        cases h
        intro ls hl
        exact lv_ldc2 hx hb hown (hts _ (tb7 _ _ _ hG)) hdg (kk ad H locs (fun _ _ => rfl) hV (Nat.le_refl _) (pz_cn pz_o_l hso) ls hl)
      · cases h
    · cases h
  · -- ldc_w
    split at h
    · rename_i hl3
      subst hl3
      split at h
      · rename_i hG
        cases h
        intro ls hl
        exact lv_ldcw hx hb hown (hts _ (tb6 _ _ _ hG)) hdg (kk ad H locs (fun _ _ => rfl) hV (Nat.le_refl _) (pz_cn pz_o_i hso) ls hl)
      · cases h
    · cases h
  · -- arrays
    split at h
    · rename_i hl3
      subst hl3
      split at h
      · rename_i hal
        cases h
        exact pz_AL_ok hx hb hK hT hwk hP hS ou1 hoa hdg hal (kk ad H locs (fun _ _ => rfl) hV (Nat.le_refl _) (pz_AL_o hal hwo (fun i k n z hz => (ou1 _ _ hz).1) hso))
      · split at h
        · rename_i has
          cases h
          obtain ⟨g1, g2, g3, g4⟩ := pz_AS_o has hwo hwk hso
          exact pz_AS_ok hx hb hK hT hwk hP hD hS hdg has (fun H1 locs1 h1 h2 h3 => kk ad H1 locs1 (fun _ _ => rfl) (pz_V_put hV h1 h2 h3 g1 g2 g3) (by rw [g1]; exact Nat.le_refl _) (by rw [g1]; exact g4))
        · cases h
    · cases h
end PZU
