/-! ===== the machine follows the pure one: calls, and the theorem ===== -/
section PQD
variable {l : Launch} {D : va_G} {cl : List vw_C} {tys : List (ClassId × FieldType)} {cy : Nat → ClassId} {A : Nat → Prop} {U E2 : List Cond} {nm : Nat → String} {my : Nat → MethodName} {xn : Nat → String} {tk : Nat → FieldType} {nk : Nat}
variable {F : Nat → Nat → Option (Nat × Nat × Bool × FieldType)} {K KA : Nat → Nat → Option Nat} {G : Nat → Nat → Option Value} {M : Nat → Nat → Option (Nat × Nat)} {X : Nat → Nat → Option (Nat × Nat)} {mt : Nat → Option (Nat × ByteArray × Nat × Bool × Option FieldType × Nat × Nat)} {fz : Nat → List Value} {oad : Nat → Nat} {OT : Nat → Option pz_C} {ST : Nat → Nat → Option Value} {LS : Nat → Nat → Option Nat} {SF : List (String × String × String × Value)} {RS : List (String × Nat × String × Nat)} {HH : Nat → List (Nat × Nat × Nat × Nat)} {CX : Nat → Nat → Nat → Option Bool}
variable {p : Program} {e : Env} {R : Room} {s : State} {m : MethodId} {args : Array Value} {below : List Frame} {meth : Method} {c : Code} {H : Heap} {locs : List Loc} {nc ns : Nat} {Q : State → Prop} {ad : Nat → Nat} {nL pc : Nat} {lv : List (Nat × Value)} {w : List pz_C}
theorem pz_after {c2 s2 : Nat} {ls : Array Slot} {st0 r : List Value} {v : Option Value} {w2 : List pz_C} {a0 : Array Value} (hr : va_Run p l e R s m args below meth c H locs nc ns c2 s2 (F0 m pc ls st0) (r.map (pz_v ad)) (pz_Qc D cl cy A nk ad w.length (.inl v) w2 a0) A) (hV : pz_V D cl cy A s.heap nk ad w H locs) (hlo : ∀ z ∈ lv, pz_o w.length z.2) (hro : ∀ z ∈ r, pz_o w.length z) (hl : lv_has ls nL (pz_l ad lv))
    (kk : ∀ (ad1 : Nat → Nat) (H1 : Heap) (locs1 : List Loc), (∀ i, i < w.length ∨ 1099511627776 ≤ i → ad1 i = ad i) → pz_V D cl cy A s.heap nk ad1 w2 H1 locs1 → w.length ≤ w2.length → (∀ z ∈ v.toList ++ r, pz_o w2.length z) → pz_W p l e R s m args below meth c H1 locs1 (nc + c2) (ns + s2) Q ad1 nL (pc + 3) lv (v.toList ++ r)) :
    W p l e R s m args below meth c H locs nc ns Q (F0 m pc ls st0) := by
  refine pz_backR hr hV.2.2.1 (fun v' a b hq => ?_) (fun v' a t locs1 h0 hW hq hS1 => ?_)
  · obtain ⟨-, -, -, -, -, -, -, -, -, g, -⟩ := hq
    exact g
  · obtain ⟨r', ad1, e1, e2, hro', f1, f2, f3, f4, f5, f6, f7, f8⟩ := hq
    cases e1
    cases e2
    have hso : ∀ z ∈ v.toList ++ r, pz_o w2.length z := fun z hz => by
      rcases List.mem_append.mp hz with h | h
      · exact hro' z (Option.mem_toList.mp h)
      · exact pz_o_mono f2 (hro z h)
    have h := kk ad1 t.heap locs1 f1 ⟨f3, f4, hS1, f6, f7, f8⟩ f2 hso ls (by rw [pz_l_eq f1 hlo]; exact hl)
    rw [List.map_append, pz_st_eq f1 hro] at h
    cases v with
    | none => exact h
    | some v => exact h
theorem pz_afterX {c2 s2 mc ms x : Nat} {ls : Array Slot} {st0 r : List Value} {w2 : List pz_C} {a0 : Array Value} {ad0 : Nat → Nat} {n0 : Nat} (hr : vx_Run p l e R s m args below meth c H locs nc ns c2 s2 (F0 m pc ls st0) (r.map (pz_v ad)) (pz_Qc D cl cy A nk ad w.length (.inr x) w2 a0) (pz_XC xn D cl cy A nk ad w.length (.inr x) w2) A) (hV : pz_V D cl cy A s.heap nk ad w H locs) (hlocks : meth.locks = false) (hexc : ∀ x ∈ c.exceptionTable.toList, False) (hag : ∀ i, i < n0 ∨ 1099511627776 ≤ i → ad i = ad0 i) (hn0 : n0 ≤ w.length) :
    W p l e R s m args below meth c H locs nc ns (vx_MQ below (pz_Qc D cl cy A nk ad0 n0 (.inr x) w2) (pz_XC xn D cl cy A nk ad0 n0 (.inr x) w2) args s (nc + c2) (ns + s2) A) (F0 m pc ls st0) := by
  refine pz_backX hr hV.2.2.1 (fun v' a b hq => ?_) (fun E a b hq => ?_) (fun E ce q a t locs1 h0 hW hq hS1 g1 g2 g3 => ?_)
  · obtain ⟨_, _, h, -⟩ := hq
    cases h
  · obtain ⟨-, -, -, -, -, -, -, -, g, -⟩ := hq
    exact g
  · obtain ⟨x', ad1, e1, e2, f1, f2, f3, f4, f5, f6, f7, f8⟩ := hq
    cases e1
    refine vx_out (fun y hy => (hexc y hy).elim) hlocks g1 g2 g3 (fun t' ht _ => ?_) hS1.2.2 (Nat.le_refl _) (Nat.le_refl _)
    refine ⟨x, ad1, rfl, e2, fun i hi => ?_, Nat.le_trans hn0 f2, by rw [ht]; exact f3, f4, ?_, f6, f7, f8⟩
    · rw [f1 i (hi.imp (fun z => Nat.lt_of_lt_of_le z hn0) id), hag i hi]
    · exact ⟨by rw [ht]; exact hS1.1, fun q h1 h2 => by rw [ht]; exact hS1.2.1 q h1 h2⟩
theorem pz_hr_spec {cx : Nat → Option Bool} {pc : Nat} : ∀ {rows : List (Nat × Nat × Nat × Nat)} {h : Nat}, pz_hr cx pc rows = some h → ∃ pre q suf, rows = pre ++ q :: suf ∧ q.2.2.1 = h ∧ (q.1 ≤ pc ∧ pc < q.2.1) ∧ q.2.2.2 ≠ 0 ∧ cx q.2.2.2 = some true ∧ ∀ z ∈ pre, ¬ (z.1 ≤ pc ∧ pc < z.2.1) ∨ (z.2.2.2 ≠ 0 ∧ cx z.2.2.2 = some false)
  | [], h, hh => by simp [pz_hr] at hh
  | q :: r, h, hh => by
    have go : pz_hr cx pc r = some h → (¬ (q.1 ≤ pc ∧ pc < q.2.1) ∨ (q.2.2.2 ≠ 0 ∧ cx q.2.2.2 = some false)) → ∃ pre q' suf, q :: r = pre ++ q' :: suf ∧ q'.2.2.1 = h ∧ (q'.1 ≤ pc ∧ pc < q'.2.1) ∧ q'.2.2.2 ≠ 0 ∧ cx q'.2.2.2 = some true ∧ ∀ z ∈ pre, ¬ (z.1 ≤ pc ∧ pc < z.2.1) ∨ (z.2.2.2 ≠ 0 ∧ cx z.2.2.2 = some false) := fun g1 g2 => by
      obtain ⟨pre, q', suf, rfl, e2, e3, e4, e5, e6⟩ := pz_hr_spec g1
      exact ⟨q :: pre, q', suf, rfl, e2, e3, e4, e5, fun z hz => (List.mem_cons.mp hz).elim (fun e => by rw [e]; exact g2) (e6 z)⟩
    unfold pz_hr at hh
    split at hh
    · rename_i hc
      split at hh
      · cases hh
      · rename_i h0
        split at hh
        · rename_i hx
          cases hh
          exact ⟨[], q, r, rfl, rfl, hc, h0, hx, fun z hz => by cases hz⟩
        · rename_i hx
          exact go hh (Or.inr ⟨h0, hx⟩)
        · cases hh
    · rename_i hc
      exact go hh (Or.inl hc)
theorem pz_afterC {c2 s2 x ow h : Nat} {ls : Array Slot} {st0 r : List Value} {w2 : List pz_C} {a0 : Array Value} {ad0 : Nat → Nat} {n0 : Nat} {cc : ByteArray} {ret : Option FieldType} {rows : List (Nat × Nat × Nat × Nat)} {v : Int32} (hr : vx_Run p l e R s m args below meth c H locs nc ns c2 s2 (F0 m pc ls st0) (r.map (pz_v ad)) (pz_Qc D cl cy A nk ad w.length (.inr x) w2 a0) (pz_XC xn D cl cy A nk ad w.length (.inr x) w2) A) (hV : pz_V D cl cy A s.heap nk ad w H locs) (hl : lv_has ls nL (pz_l ad lv)) (mb : pz_Mb U E2 nm my xn cl M X mt HH CX) (hmv : pz_mv E2) (hx : p.tables.exec = Jvm.exec) (hb : c.code = cc) (hts : ∀ x ∈ U, x.before args s = true) (hE2 : ∀ x ∈ E2, va_Nw x s) (hown : s.vm.findClass (nm ow) = some m.cls) (hret : meth.sig.returnType = ret) (hlocks : meth.locks = false) (hexc : c.exceptionTable.toList = tableOf rows) (hag : ∀ i, i < n0 ∨ 1099511627776 ≤ i → ad i = ad0 i) (hn0 : n0 ≤ w.length) (hh : pz_hr (fun t => CX ow t x) pc rows = some h) (hp : pz_hp cc nL ret h = some v) :
    W p l e R s m args below meth c H locs nc ns (vx_MQ below (pz_Qc D cl cy A nk ad0 n0 (.inl (some (.int v))) w2) (pz_XC xn D cl cy A nk ad0 n0 (.inl (some (.int v))) w2) args s (nc + c2) (ns + s2) A) (F0 m pc ls st0) := by
  refine pz_backX hr hV.2.2.1 (fun v' a b hq => ?_) (fun E a b hq => ?_) (fun E ce q a t locs1 h0 hW hq hS1 g1 g2 g3 => ?_)
  · obtain ⟨_, _, h, -⟩ := hq
    cases h
  · obtain ⟨-, -, -, -, -, -, -, -, g, -⟩ := hq
    exact g
  · obtain ⟨x', ad1, e1, e2, f1, f2, f3, f4, f5, f6, f7, f8⟩ := hq
    cases e1
    subst e2
    obtain ⟨pre, q0, suf, rfl, r2, r3, r4, r5, r6⟩ := pz_hr_spec hh
    have tb1 := mb.2.2.2.2.2.2.2.2.2.2.1
    have tb2 := mb.2.2.2.2.2.2.2.2.2.2.2.1
    have hts2 : ∀ x ∈ U ++ E2, x.before args s = true := fun x hx => (List.mem_append.mp hx).elim (hts x) (fun z => (hmv x z).2.2 args s (hE2 x z))
    obtain ⟨name, n1, n2⟩ := tb1 _ _ _ r5
    refine pz_catch hown (tableOf pre) ⟨q0.1, q0.2.1, q0.2.2.1, q0.2.2.2⟩ (tableOf suf) (by rw [hexc]; simp [tableOf]) (fun z hz => ?_) (by simp [covers, r3.1, r3.2]) r4 (hts _ n1) (hts2 _ n2) g1 g2 g3 ?_
    · obtain ⟨z0, hz0, rfl⟩ := List.mem_map.mp hz
      rcases r6 z0 hz0 with k | ⟨k1, k2⟩
      · refine Or.inl ?_
        by_cases k3 : z0.1 ≤ pc
        · have k4 : ¬ pc < z0.2.1 := fun z => k ⟨k3, z⟩
          simp [covers, k4]
        · simp [covers, k3]
      · obtain ⟨nm2, n3, n4⟩ := tb2 _ _ _ k2
        exact Or.inr ⟨k1, nm2, hts _ n3, va_Nc.of (hE2 _ n4)⟩
    · have hend : ∀ (pc2 : Nat) (ls2 : Array Slot), decode cc pc2 = .ok (.ireturn, 1) → W p l e R s m args below meth c t.heap locs1 (nc + c2) (ns + s2) (vx_MQ below (pz_Qc D cl cy A nk ad0 n0 (.inl (some (.int v))) w2) (pz_XC xn D cl cy A nk ad0 n0 (.inl (some (.int v))) w2) args s (nc + c2) (ns + s2) A) (F0 m pc2 ls2 [.int v]) → W p l e R s m args below meth c t.heap locs1 (nc + c2) (ns + s2) (vx_MQ below (pz_Qc D cl cy A nk ad0 n0 (.inl (some (.int v))) w2) (pz_XC xn D cl cy A nk ad0 n0 (.inl (some (.int v))) w2) args s (nc + c2) (ns + s2) A) (F0 m pc2 ls2 [.int v]) := fun _ _ _ z => z
      have hfin : ∀ (pc2 : Nat) (ls2 : Array Slot), ret = some .int → decode cc pc2 = .ok (.ireturn, 1) → W p l e R s m args below meth c t.heap locs1 (nc + c2) (ns + s2) (vx_MQ below (pz_Qc D cl cy A nk ad0 n0 (.inl (some (.int v))) w2) (pz_XC xn D cl cy A nk ad0 n0 (.inl (some (.int v))) w2) args s (nc + c2) (ns + s2) A) (F0 m pc2 ls2 [.int v]) := fun pc2 ls2 hri hd => by
        refine vx_ret (W.iret hx hb (hret.trans hri) (fun t' ht _ => ?_) hS1.2.2 hd hlocks)
        refine ⟨some (.int v), ad1, rfl, rfl, fun u hu => by cases hu; exact pz_o_i, fun i hi => ?_, Nat.le_trans hn0 f2, by rw [ht]; exact f3, f4, ?_, f6, f7, f8⟩
        · rw [f1 i (hi.imp (fun z => Nat.lt_of_lt_of_le z hn0) id), hag i hi]
        · exact ⟨by rw [ht]; exact hS1.1, fun q h1 h2 => by rw [ht]; exact hS1.2.1 q h1 h2⟩
      show W p l e R s m args below meth c t.heap locs1 (nc + c2) (ns + s2) _ (F0 m q0.2.2.1 ls [.ref q])
      rw [r2]
      unfold pz_hp at hp
      split at hp
      · rename_i hri
        split at hp
        · rename_i d1
          split at hp
          · rename_i hi
            split at hp
            · rename_i d2
              split at hp
              · rename_i d3
                cases hp
                exact lv_astore_n hx hb d1 rfl hl hi rfl (fun ls2 _ => lv_iconst hx hb d2 rfl (hfin _ ls2 hri (pz_dq_ok d3)))
              · cases hp
            · cases hp
          · cases hp
        · rename_i d1
          split at hp
          · rename_i hi
            split at hp
            · rename_i d2
              split at hp
              · rename_i d3
                cases hp
                exact lv_astore hx hb d1 hl hi rfl (fun ls2 _ => lv_iconst hx hb d2 rfl (hfin _ ls2 hri (pz_dq_ok d3)))
              · cases hp
            · cases hp
          · cases hp
        · cases hp
      · cases hp
theorem pz_Pc_now {U' : State} {as : List Value} (hmv : pz_mv E2) (hK : va_K D cl tys s) (hV : pz_V D cl cy A s.heap nk ad w H locs) (hA : ∀ q, s.heap.size ≤ q → A q) (hOu : pz_Ou cl tk oad OT SF RS A E2 s s.heap) (hU : U'.heap = H) (hW : s.WarmedH U'.vm) : pz_Pc D cl cy A tys tk oad OT SF RS E2 ad w as (as.map (pz_v ad)).toArray U' := by
  obtain ⟨hP, hD, hS, -⟩ := hV
  refine ⟨rfl, fun q hq => hA q (Nat.le_trans hS.1 (by rw [← hU]; exact hq)), by rw [hU]; exact hP, hD, va_K.moved hW.alike hK, ?_⟩
  rw [hU]
  exact pz_Ou_go hmv hW hS.2.1 hOu
theorem pz_CB {d1 c1 s1 c2 s2 idx k ow ok nk1 ci np : Nat} {code : ByteArray} {ini : Bool} {ret : Option FieldType} (mb : pz_Mb U E2 nm my xn cl M X mt HH CX) (hts : ∀ x ∈ U, x.before args s = true) (hmt : mt k = some (ok, code, nk1, ini, ret, ci, np)) (hhh : HH k = []) (hn : nk1 ≤ 100) (hl : (Cond.methodLink (nm ow) idx (my k)).before args s = true) :
    CallB (pz_rm (d1 + 1) c1 s1) s args (nm ow) idx (my k) code nk1 ret (pz_cw (my k) code nk1 ret (HH k) :: U) (pz_rm d1 c2 s2) c2 s2 np := by
  have hcw : pz_cw (my k) code nk1 ret (HH k) = Cond.code (my k) code nk1 ret := if_pos hhh
  obtain ⟨m1, m2, m3, m4, m5, m6, m7⟩ := mb.2.1 _ _ _ _ _ _ _ _ hmt
  rw [hcw] at m2 ⊢
  refine ⟨rfl, rfl, ?_, ?_, fun x hx a' U' hW => ?_, List.mem_cons_self, hts _ m2, hts _ m5, m6, fun sig h => ?_, hl⟩
  · show d1 + 8 + 1 ≤ d1 + 1 + 8
    omega
  · show 8 + (nk1 + 11) + (128 * d1 + 256) ≤ 128 * (d1 + 1) + 256
    omega
  · have hxU : x ∈ U := (List.mem_cons.mp hx).elim (fun z => by rw [z]; exact m2) id
    exact word_at hW (good_of_word (mb.1 x hxU)) (hts x hxU)
  · rw [h] at m7
    exact (Option.some.inj m7).symm
theorem pz_rev (ad : Nat → Nat) (As r : List Value) (b : Nat) : (As.reverse ++ .ref b :: r).map (pz_v ad) = (As.map (pz_v ad)).reverse ++ .ref (ad b) :: r.map (pz_v ad) := by
  rw [List.map_append, List.map_cons, List.map_reverse]
  rfl
end PQD
