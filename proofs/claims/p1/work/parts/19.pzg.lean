/-! ===== every run of the pure machine is the machine's own ===== -/
section PQE
variable {l : Launch} {D : va_G} {cl : List vw_C} {tys : List (ClassId × FieldType)} {cy : Nat → ClassId} {A : Nat → Prop} {U E2 : List Cond} {nm : Nat → String} {my : Nat → MethodName} {xn : Nat → String} {tk : Nat → FieldType} {nk : Nat}
variable {F : Nat → Nat → Option (Nat × Nat × Bool × FieldType)} {K KA : Nat → Nat → Option Nat} {G : Nat → Nat → Option Value} {M : Nat → Nat → Option (Nat × Nat)} {X : Nat → Nat → Option (Nat × Nat)} {mt : Nat → Option (Nat × ByteArray × Nat × Bool × Option FieldType × Nat × Nat)} {fz : Nat → List Value} {oad : Nat → Nat} {OT : Nat → Option pz_C} {ST : Nat → Nat → Option Value} {LS : Nat → Nat → Option Nat} {SF : List (String × String × String × Value)} {RS : List (String × Nat × String × Nat)} {HH : Nat → List (Nat × Nat × Nat × Nat)} {CX : Nat → Nat → Nat → Option Bool}
set_option maxHeartbeats 4000000 in
theorem pz_sound (hlt : l.stackTraces = false) (hmv : pz_mv E2) (tb : pz_Tb (U ++ E2) nm cl tk nk F K KA G M fz ST LS SF RS) (mb : pz_Mb U E2 nm my xn cl M X mt HH CX) (hT : pz_T tk nk cy tys) : ∀ n, pz_Snd l D cl tys cy A U E2 nm my xn tk nk F K KA G M X mt fz oad OT ST LS SF RS HH CX n := by
  intro n
  induction n with
  | zero =>
    intro d j pc lv st w nc ns o w1 c1 s1 ow code nL ini ret ci np h
    simp [pz_run] at h
  | succ n ih =>
    intro d j pc lv st w nc ns o w1 c1 s1 ow code nL ini ret ci np h hmt p e s m args below meth c H locs ad ad0 n0 hx hb hml hts hown hret hlocks hname hexc hK hV hA hOu hlo hso hag hn0 hoa0
    have hts2 : ∀ x ∈ U ++ E2, x.before args s = true := fun x hx => (List.mem_append.mp hx).elim (hts x) (fun z => (hmv x z).2.2 args s (hOu.2.2.1 x z))
    have hini : ini = true → meth.name = "<init>" := fun z => hname.trans ((mb.2.1 _ _ _ _ _ _ _ _ hmt).2.2.2.1 z)
    have hoa : ∀ i, 1099511627776 ≤ i → ad i = oad i := fun i hi => (hag i (Or.inr hi)).trans (hoa0 i hi)
    unfold pz_run at h
    rw [hmt] at h
    simp only [] at h
    split at h
    · cases h
    · rename_i ins len hdg
      split at h
      · rename_i len1 lv1 st1 hA1
        split at h
        · rename_i hl1
          subst hl1
          obtain ⟨g1, g2⟩ := pz_A_o hA1 hlo hso
          exact pz_A_ok hx hb hdg hA1 (ih d j _ lv1 st1 w nc ns o w1 c1 s1 ow code nL ini ret ci np h hmt p e s m args below meth c H locs ad ad0 n0 hx hb hml hts hown hret hlocks hname hexc hK hV hA hOu g1 g2 hag hn0 hoa0)
        · cases h
      · split at h
        · rename_i st1 hB1
          split at hB1
          · rename_i hl1
            subst hl1
            exact pz_B_ok hx hb hdg hB1 (ih d j _ lv st1 w nc ns o w1 c1 s1 ow code nL ini ret ci np h hmt p e s m args below meth c H locs ad ad0 n0 hx hb hml hts hown hret hlocks hname hexc hK hV hA hOu hlo (pz_B_o hB1 hso) hag hn0 hoa0)
          · cases hB1
        · split at h
          · rename_i pc1 st1 hJ1
            exact pz_J_ok hx hb hdg hJ1 (ih d j _ lv st1 w nc ns o w1 c1 s1 ow code nL ini ret ci np h hmt p e s m args below meth c H locs ad ad0 n0 hx hb hml hts hown hret hlocks hname hexc hK hV hA hOu hlo (pz_J_o hJ1 hso) hag hn0 hoa0)
          · split at h
            · rename_i st1 w2 c2 s2 hS1
              obtain ⟨k1, k2⟩ := pz_mono h
              exact pz_S_ok (R := pz_rm d c1 s1) tb hx hb hts2 hown hK hT hV hA hlo hso hini hml (by show 1 ≤ d + 8; omega) (by show 200 ≤ 128 * d + 256; omega) hOu hoa hdg hS1 k1 k2 (fun ad1 H1 locs1 f1 f2 f3 f4 => ih d j _ lv st1 w2 _ _ o w1 c1 s1 ow code nL ini ret ci np h hmt p e s m args below meth c H1 locs1 ad1 ad0 n0 hx hb hml hts hown hret hlocks hname hexc hK f2 hA hOu (fun z hz => pz_o_mono f3 (hlo z hz)) f4 (fun i hi => (f1 i (hi.imp (fun z => Nat.lt_of_lt_of_le z hn0) id)).trans (hag i hi)) (Nat.le_trans hn0 f3) hoa0)
            · split at h
              · rename_i r hr
                cases h
                exact pz_ret_ok hx hb hret hlocks hV hag hn0 hso hdg hr
              · split at h
                · rename_i x hth
                  cases h
                  split at hth
                  · rename_i hhe
                    have hh0 : HH j = [] := List.isEmpty_iff.mp hhe
                    exact pz_th_ok hlt hmv mb hx hb hml hts hown hlocks (fun y hy => by rw [hexc, hh0] at hy; cases hy) hV hOu hag hn0 hdg hth
                  · cases hth
                · split at h
                  · rename_i hk k as st1 d1 hK1
                    obtain ⟨ok, kcode, knL, kini, kret, kci, knp, hkm, kn, klg, ksum, kl, kcase⟩ := pz_K_spec hK1
                    subst kl
                    obtain ⟨hP, hD, hS, hlen, hwo, hwk⟩ := id hV
                    have hao : ∀ z ∈ as, pz_o w.length z := by
                      rcases kcase with ⟨idx, b, As, fs, -, -, -, rfl, rfl, -, -⟩ | ⟨idx, b, As, fs, -, -, -, rfl, rfl, -, -⟩ | ⟨idx, -, -, -, rfl, -⟩
                      · exact pz_cn (hso _ (by simp)) (fun z hz => hso z (by simp [hz]))
                      · exact pz_cn (hso _ (by simp)) (fun z hz => hso z (by simp [hz]))
                      · exact fun z hz => hso z (by simp [hz])
                    have hro : ∀ z ∈ st1, pz_o w.length z := by
                      rcases kcase with ⟨idx, b, As, fs, -, -, -, rfl, rfl, -, -⟩ | ⟨idx, b, As, fs, -, -, -, rfl, rfl, -, -⟩ | ⟨idx, -, -, -, rfl, -⟩
                      · exact fun z hz => hso z (by simp [hz])
                      · exact fun z hz => hso z (by simp [hz])
                      · exact fun z hz => hso z (by simp [hz])
                    have hsum : ∀ ls : Array Slot, ∀ st0 : List Value, 2 * (F0 m pc ls st0).monitorRoom + ((st1.map (pz_v ad)).map fun v => v.category).sum ≤ 8 := fun ls st0 => lv_room (by rw [pz_sum]; exact ksum)
                    have hpre : ∀ U' : State, U'.heap = H → s.WarmedH U'.vm → pz_Pc D cl cy A tys tk oad OT SF RS E2 ad w as (as.map (pz_v ad)).toArray U' := fun U' g1 g2 => pz_Pc_now hmv hK hV hA hOu g1 g2
                    have hrecv : ∀ {b ci : Nat} {fs : List Value} {C : String} {T : u_T} {N : Nat}, pz_q OT w b = some (.inr (ci, fs)) → cl[ci]? = some (C, T, N) → ∃ cell : Cell, H[ad b]? = some cell ∧ cell.vm.isStatics = false ∧ s.vm.findClass C = some cell.cls := fun {b ci fs C T N} g1 g2 => by
                      rcases pz_q_or g1 with g1 | ⟨hB, g1⟩
                      · exact va_recv hK hP g2 (pz_w_at g1)
                      · obtain ⟨C', T', N', f1, f2, -⟩ := hOu.2.2.2.1 _ _ g1
                        rw [g2] at f1
                        cases f1
                        rw [Nat.add_sub_cancel' hB] at f2
                        obtain ⟨cell, k1, k2, k3, k4⟩ := f2
                        exact ⟨cell, by rw [hoa b hB, hS.2.1 _ (Array.getElem?_eq_some_iff.mp k1).1 k4]; exact k1, k2, k3⟩
                    split at h
                    · cases h
                    · -- it returns
                      rename_i v w2 c2 s2 hrun
                      obtain ⟨k1, k2⟩ := pz_mono h
                      have hM := pz_met (pz_contract (ad := ad) ih mb hrun hkm klg hlen hwo hwk hao hoa) (fun E a b z => by obtain ⟨_, _, z, -⟩ := z; cases z)
                      have kk : ∀ (ad1 : Nat → Nat) (H1 : Heap) (locs1 : List Loc), (∀ i, i < w.length ∨ 1099511627776 ≤ i → ad1 i = ad i) → pz_V D cl cy A s.heap nk ad1 w2 H1 locs1 → w.length ≤ w2.length → (∀ z ∈ v.toList ++ st1, pz_o w2.length z) → pz_W p l e (pz_rm (d1 + 1) c1 s1) s m args below meth c H1 locs1 (nc + c2) (ns + s2) (vx_MQ below (pz_Qc D cl cy A nk ad0 n0 o w1) (pz_XC xn D cl cy A nk ad0 n0 o w1) args s c1 s1 A) ad1 nL (pc + 3) lv (v.toList ++ st1) := fun ad1 H1 locs1 f1 f2 f3 f4 => ih (d1 + 1) j _ lv _ w2 _ _ o w1 c1 s1 ow code nL ini ret ci np h hmt p e s m args below meth c H1 locs1 ad1 ad0 n0 hx hb hml hts hown hret hlocks hname hexc hK f2 hA hOu (fun z hz => pz_o_mono f3 (hlo z hz)) f4 (fun i hi => (f1 i (hi.imp (fun z => Nat.lt_of_lt_of_le z hn0) id)).trans (hag i hi)) (Nat.le_trans hn0 f3) hoa0
                      have hno9 : ∀ {idx h : Nat}, M ow idx = some (h, k) → h ≠ 9 → HH k = [] := fun {idx h} g1 g2 => mb.2.2.2.2.2.2.2.2.2.1 _ _ _ _ g1 g2
                      have hcw : HH k = [] → pz_cw (my k) kcode knL kret (HH k) = Cond.code (my k) kcode knL kret := fun z => if_pos z
                      rcases kcase with ⟨idx, b, As, fs, rfl, h05, hMk, rfl, rfl, hnp, hwb⟩ | ⟨idx, b, As, fs, rfl, h23, hMk, rfl, rfl, hnp, hwb⟩ | ⟨idx, rfl, h49, hMk, rfl, hnp⟩
                      · intro ls hl
                        rcases h05 with rfl | rfl
                        · obtain ⟨m1, m2, m3, m4⟩ := mb.2.2.1 _ _ _ hMk
                          obtain ⟨T, N, hci⟩ := m4 _ _ _ _ _ _ _ hkm
                          exact pz_after (va_runV (C := (my k).cls) (b := ad b) (As := As.map (pz_v ad)) (rest := st1.map (pz_v ad)) ⟨hx, hb, hml, hown, hts⟩ hM ⟨pz_CB mb hts hkm (hno9 hMk (by decide)) kn (hts _ m1), hts _ m2, hts _ m3⟩ ⟨pz_blind hmv, hrecv hwb hci, hpre⟩ rfl (by rw [List.length_map]; exact hnp) hl.1 (pz_rev ad As st1 b) (hsum ls _) hdg ⟨k1, k2⟩) hV hlo hro hl kk
                        · obtain ⟨m1, m2, m3, m4⟩ := mb.2.2.2.2.2.2.1 _ _ _ hMk
                          obtain ⟨C, T, N, hci, m5⟩ := m4 _ _ _ _ _ _ _ hkm
                          obtain ⟨q1, q2, q3, q4, q5, q6, q7⟩ := mb.2.1 _ _ _ _ _ _ _ _ hkm
                          have hG : GoodIn U (va_wsU (nm ow) idx C (my k).cls (my k) (my k) (pz_cw (my k) kcode knL kret (HH k) :: U)) := fun x hx => by
                            have hxU : x ∈ U := by
                              simp only [va_wsU, List.mem_append, List.mem_cons, List.not_mem_nil, or_false] at hx
                              rcases hx with (rfl | rfl | rfl | rfl | rfl) | (rfl | hx)
                              · exact m1
                              · exact m2
                              · exact m5
                              · exact m3
                              · exact q5
                              · exact q2
                              · exact hx
                            exact ⟨hxU, good_of_word (mb.1 x hxU)⟩
                          exact pz_after (va_runU (C := C) (b := ad b) (As := As.map (pz_v ad)) (rest := st1.map (pz_v ad)) ⟨hx, hb, hml, hown, hts⟩ hM (va_cwU knp hts hG (by rw [hcw (hno9 hMk (by decide))]) rfl rfl rfl ⟨q6.1, q6.2, q7⟩ ⟨(by show d1 + 8 + 1 ≤ d1 + 1 + 8; omega), (by show 8 + (knL + 11) + (128 * d1 + 256) ≤ 128 * (d1 + 1) + 256; omega)⟩) ⟨pz_blind hmv, hrecv hwb hci, hpre⟩ rfl (by rw [List.length_map]; exact hnp) hl.1 (pz_rev ad As st1 b) (hsum ls _) hdg ⟨k1, k2⟩) hV hlo hro hl kk
                      · intro ls hl
                        rcases h23 with rfl | rfl | rfl
                        · obtain ⟨m1, m2, m3, m4⟩ := mb.2.2.2.1 _ _ _ hMk
                          cases m4 _ _ _ _ _ _ _ hkm
                          exact pz_after (va_runI (b := ad b) (As := As.map (pz_v ad)) (rest := st1.map (pz_v ad)) ⟨hx, hb, hml, hown, hts⟩ hM ⟨pz_CB mb hts hkm (hno9 hMk (by decide)) kn (hts _ m1), m3, hts _ m2⟩ ⟨pz_blind hmv, hpre⟩ rfl (by rw [List.length_map]; exact hnp) hl.1 (pz_rev ad As st1 b) (hsum ls _) hdg ⟨k1, k2⟩) hV hlo hro hl kk
                        · obtain ⟨⟨host, m1⟩, m2, m3, m4⟩ := mb.2.2.2.2.1 _ _ _ hMk
                          cases m4 _ _ _ _ _ _ _ hkm
                          obtain ⟨q1, q2, q3, q4, q5, q6, q7⟩ := mb.2.1 _ _ _ _ _ _ _ _ hkm
                          have hcw0 := hcw (hno9 hMk (by decide))
                          have hpay : ∀ x ∈ pz_cw (my k) kcode knL none (HH k) :: U, ∀ (a' : Array Value) (U' : State), s.WarmedH U'.vm → x.before a' U' = true := fun x hx a' U' hW => by
                            have hxU : x ∈ U := (List.mem_cons.mp hx).elim (fun z => by rw [z]; exact q2) id
                            exact word_at hW (good_of_word (mb.1 x hxU)) (hts x hxU)
                          exact pz_after (va_runIN (host := host) (b := ad b) (As := As.map (pz_v ad)) (rest := st1.map (pz_v ad)) ⟨hx, hb, hml, hown, hts⟩ hM ⟨⟨⟨rfl, rfl, (by show d1 + 8 + 1 ≤ d1 + 1 + 8; omega), (by show 8 + (knL + 11) + (128 * d1 + 256) ≤ 128 * (d1 + 1) + 256; omega), hpay, (by rw [hcw0]; exact List.mem_cons_self)⟩, (by rw [← hcw0]; exact hts _ q2), hts _ q5, q6, (fun sig hsig => by rw [hsig] at q7; exact (Option.some.inj q7).symm), (hmv _ m1).2.2 args s (hOu.2.2.1 _ m1)⟩, m3, hts _ m2⟩ ⟨pz_blind hmv, hpre⟩ rfl (by rw [List.length_map]; exact hnp) hl.1 (pz_rev ad As st1 b) (hsum ls _) hdg ⟨k1, k2⟩) hV hlo hro hl kk
                        · obtain ⟨m1, m2, m3, m4, m5, m6⟩ := mb.2.2.2.2.2.2.2.1 _ _ _ hMk
                          obtain ⟨C, T, N, hci⟩ := m6 _ _ _ _ _ _ _ hkm
                          obtain ⟨q1, q2, q3, q4, q5, q6, q7⟩ := mb.2.1 _ _ _ _ _ _ _ _ hkm
                          have hG : GoodIn U (va_wsSU (nm ow) idx (my k) (pz_cw (my k) kcode knL kret (HH k) :: U)) := fun x hx => by
                            have hxU : x ∈ U := by
                              simp only [va_wsSU, List.mem_append, List.mem_cons, List.not_mem_nil, or_false] at hx
                              rcases hx with (rfl | rfl | rfl | rfl | rfl) | (rfl | hx)
                              · exact m1
                              · exact m2
                              · exact m3
                              · exact m4
                              · exact q5
                              · exact q2
                              · exact hx
                            exact ⟨hxU, good_of_word (mb.1 x hxU)⟩
                          exact pz_after (va_runSU (C := C) (b := ad b) (As := As.map (pz_v ad)) (rest := st1.map (pz_v ad)) (hK.1 _ _ hci).2 ⟨hx, hb, hml, hown, hts⟩ hM (va_cwSU knp hts hG (by rw [hcw (hno9 hMk (by decide))]) rfl rfl ⟨m5, q7⟩ ⟨(by show d1 + 8 + 1 ≤ d1 + 1 + 8; omega), (by show 8 + (knL + 11) + (128 * d1 + 256) ≤ 128 * (d1 + 1) + 256; omega)⟩) ⟨pz_blind hmv, hrecv hwb hci, hpre⟩ rfl (by rw [List.length_map]; exact hnp) hl.1 (pz_rev ad As st1 b) (hsum ls _) hdg ⟨k1, k2⟩) hV hlo hro hl kk
                      · intro ls hl
                        rcases h49 with rfl | rfl
                        · obtain ⟨m1, m2⟩ := mb.2.2.2.2.2.1 _ _ _ hMk
                          exact pz_after (va_runS (As := as.map (pz_v ad)) (rest := st1.map (pz_v ad)) ⟨hx, hb, hml, hown, hts⟩ hM ⟨pz_CB mb hts hkm (hno9 hMk (by decide)) kn (hts _ m1), hts _ m2⟩ ⟨pz_blind hmv, hpre⟩ rfl (by rw [List.length_map]; exact hnp) hl.1 (by show List.map _ _ = _; rw [List.map_append, List.map_reverse]) (hsum ls _) hdg ⟨k1, k2⟩) hV hlo hro hl kk
                        · obtain ⟨m1, m2, m3⟩ := mb.2.2.2.2.2.2.2.2.1 _ _ _ hMk
                          obtain ⟨q1, q2, q3, q4, q5, q6, q7⟩ := mb.2.1 _ _ _ _ _ _ _ _ hkm
                          have hcw9 : pz_cw (my k) kcode knL kret (HH k) = Cond.codeWith (my k) kcode knL kret (HH k) := if_neg m3
                          have hpay : ∀ x ∈ pz_cw (my k) kcode knL kret (HH k) :: U, ∀ (a' : Array Value) (U' : State), s.WarmedH U'.vm → x.before a' U' = true := fun x hx a' U' hW => by
                            have hxU : x ∈ U := (List.mem_cons.mp hx).elim (fun z => by rw [z]; exact q2) id
                            exact word_at hW (good_of_word (mb.1 x hxU)) (hts x hxU)
                          exact pz_after (vx_runSW (hh := HH k) (As := as.map (pz_v ad)) (rest := st1.map (pz_v ad)) ⟨hx, hb, hml, hown, hts⟩ hM ⟨⟨rfl, rfl, (by show d1 + 8 + 1 ≤ d1 + 1 + 8; omega), (by show 8 + (knL + 11) + (128 * d1 + 256) ≤ 128 * (d1 + 1) + 256; omega), hpay, (by rw [hcw9]; exact List.mem_cons_self)⟩, (by rw [← hcw9]; exact hts _ q2), hts _ q5, q6, (fun sig hsig => by rw [hsig] at q7; exact (Option.some.inj q7).symm), hts _ m1, hts _ m2⟩ ⟨pz_blind hmv, hpre⟩ rfl (by rw [List.length_map]; exact hnp) hl.1 (by show List.map _ _ = _; rw [List.map_append, List.map_reverse]) (hsum ls _) hdg ⟨k1, k2⟩) hV hlo hro hl kk
                    · -- it throws
                      rename_i x w2 c2 s2 hrun
                      split at h
                      · rename_i h04
                        have hM := pz_contract (ad := ad) ih mb hrun hkm klg hlen hwo hwk hao hoa
                        have hno9 : ∀ {idx h : Nat}, M ow idx = some (h, k) → h ≠ 9 → HH k = [] := fun {idx h} g1 g2 => mb.2.2.2.2.2.2.2.2.2.1 _ _ _ _ g1 g2
                        obtain ⟨q8, q9⟩ : nc + c2 ≤ c1 ∧ ns + s2 ≤ s1 := by
                          split at h
                          · cases h
                            exact ⟨Nat.le_refl _, Nat.le_refl _⟩
                          · split at h
                            · split at h
                              · cases h
                                exact ⟨Nat.le_refl _, Nat.le_refl _⟩
                              · cases h
                            · cases h
                        have hrunX : ∀ (ls : Array Slot), lv_has ls nL (pz_l ad lv) → vx_Run p l e (pz_rm (d1 + 1) c1 s1) s m args below meth c H locs nc ns c2 s2 (F0 m pc ls (st.map (pz_v ad))) (st1.map (pz_v ad)) (pz_Qc D cl cy A nk ad w.length (.inr x) w2 (as.map (pz_v ad)).toArray) (pz_XC xn D cl cy A nk ad w.length (.inr x) w2) A := by
                          rcases kcase with ⟨idx, b, As, fs, rfl, h05, hMk, rfl, rfl, hnp, hwb⟩ | ⟨idx, b, As, fs, rfl, h23, hMk, rfl, rfl, hnp, hwb⟩ | ⟨idx, rfl, h49, hMk, rfl, hnp⟩
                          · intro ls hl
                            rcases h04 with rfl | rfl
                            · obtain ⟨m1, m2, m3, m4⟩ := mb.2.2.1 _ _ _ hMk
                              obtain ⟨T, N, hci⟩ := m4 _ _ _ _ _ _ _ hkm
                              exact vx_runV (C := (my k).cls) (b := ad b) (As := As.map (pz_v ad)) (rest := st1.map (pz_v ad)) ⟨hx, hb, hml, hown, hts⟩ hM ⟨pz_CB mb hts hkm (hno9 hMk (by decide)) kn (hts _ m1), hts _ m2, hts _ m3⟩ ⟨pz_blind hmv, hrecv hwb hci, hpre⟩ rfl (by rw [List.length_map]; exact hnp) hl.1 (pz_rev ad As st1 b) (hsum ls _) hdg ⟨q8, q9⟩
                            · omega
                          · rcases h23 with rfl | rfl | rfl <;> simp at h04
                          · intro ls hl
                            rcases h04 with rfl | rfl
                            · omega
                            · obtain ⟨m1, m2⟩ := mb.2.2.2.2.2.1 _ _ _ hMk
                              exact vx_runS (As := as.map (pz_v ad)) (rest := st1.map (pz_v ad)) ⟨hx, hb, hml, hown, hts⟩ hM ⟨pz_CB mb hts hkm (hno9 hMk (by decide)) kn (hts _ m1), hts _ m2⟩ ⟨pz_blind hmv, hpre⟩ rfl (by rw [List.length_map]; exact hnp) hl.1 (by show List.map _ _ = _; rw [List.map_append, List.map_reverse]) (hsum ls _) hdg ⟨q8, q9⟩
                        split at h
                        · rename_i hhe
                          have hh0 : HH j = [] := List.isEmpty_iff.mp hhe
                          cases h
                          intro ls hl
                          exact pz_afterX (mc := 0) (ms := 0) (hrunX ls hl) hV hlocks (fun y hy => by rw [hexc, hh0] at hy; cases hy) hag hn0
                        · split at h
                          · rename_i hhr
                            split at h
                            · rename_i hhp
                              cases h
                              intro ls hl
                              exact pz_afterC (hrunX ls hl) hV hl mb hmv hx hb hts hOu.2.2.1 hown hret hlocks hexc hag hn0 hhr hhp
                            · cases h
                          · cases h
                      · cases h
                  · cases h
end PQE
