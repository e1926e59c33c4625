/-! ===== the machine follows the pure one: every run ===== -/
section PQC
variable {l : Launch} {D : va_G} {cl : List vw_C} {tys : List (ClassId × FieldType)} {cy : Nat → ClassId} {A : Nat → Prop} {U E2 : List Cond} {nm : Nat → String} {my : Nat → MethodName} {xn : Nat → String} {tk : Nat → FieldType} {nk : Nat}
variable {F : Nat → Nat → Option (Nat × Nat × Bool × FieldType)} {K KA : Nat → Nat → Option Nat} {G : Nat → Nat → Option Value} {M : Nat → Nat → Option (Nat × Nat)} {X : Nat → Nat → Option (Nat × Nat)} {mt : Nat → Option (Nat × ByteArray × Nat × Bool × Option FieldType × Nat × Nat)} {fz : Nat → List Value} {oad : Nat → Nat} {OT : Nat → Option pz_C} {ST : Nat → Nat → Option Value} {LS : Nat → Nat → Option Nat} {SF : List (String × String × String × Value)} {RS : List (String × Nat × String × Nat)} {HH : Nat → List (Nat × Nat × Nat × Nat)} {CX : Nat → Nat → Nat → Option Bool}
theorem pz_fin {s t : State} {ad ad0 : Nat → Nat} {n0 : Nat} {w : List pz_C} {H : Heap} {locs : List Loc} (hV : pz_V D cl cy A s.heap nk ad w H locs) (hag : ∀ i, i < n0 ∨ 1099511627776 ≤ i → ad i = ad0 i) (hn0 : n0 ≤ w.length) (hz : H.size ≤ t.heap.size) (hk : ∀ q : Nat, q < H.size → t.heap[q]? = H[q]?) : pz_Fin D cl cy A nk ad0 n0 w s t ad := by
  obtain ⟨hP, hD, hS, hlen, hwo, hwk⟩ := hV
  exact ⟨hag, hn0, hP.kept (fun k q hq => hk q.1 (hP k q hq).lt), hD, ⟨Nat.le_trans hS.1 hz, fun q h1 h2 => by rw [hk q (Nat.lt_of_lt_of_le h1 hS.1)]; exact hS.2.1 q h1 h2⟩, hlen, hwo, hwk⟩
theorem pz_ret_ok {p : Program} {e : Env} {R : Room} {s : State} {m : MethodId} {args : Array Value} {below : List Frame} {meth : Method} {c : Code} {H : Heap} {locs : List Loc} {nc ns : Nat} {ad ad0 : Nat → Nat} {n0 nL pc len : Nat} {lv : List (Nat × Value)} {st : List Value} {w : List pz_C} {cc : ByteArray} {ret : Option FieldType} {ins : Instr} {r : Option Value} (hx : p.tables.exec = Jvm.exec) (hb : c.code = cc) (hret : meth.sig.returnType = ret) (hlocks : meth.locks = false) (hV : pz_V D cl cy A s.heap nk ad w H locs) (hag : ∀ i, i < n0 ∨ 1099511627776 ≤ i → ad i = ad0 i) (hn0 : n0 ≤ w.length) (hso : ∀ z ∈ st, pz_o w.length z) (hdg : decode cc pc = .ok (ins, len)) (h : pz_ret ins len ret st = some r) :
    pz_W p l e R s m args below meth c H locs nc ns (vx_MQ below (pz_Qc D cl cy A nk ad0 n0 (.inl r) w) (pz_XC xn D cl cy A nk ad0 n0 (.inl r) w) args s nc ns A) ad nL pc lv st := by
  intro ls hl
  refine vx_ret ?_
  have hq : ∀ (r : Option Value), (∀ v, r = some v → pz_o w.length v) → ∀ t : State, t.heap = H → s.WarmedH t.vm → pz_Qc D cl cy A nk ad0 n0 (.inl r) w args s (.returned (r.map (pz_v ad))) t := fun r hr t ht _ =>
    ⟨r, ad, rfl, rfl, hr, pz_fin hV hag hn0 (by rw [ht]; exact Nat.le_refl _) (fun q _ => by rw [ht])⟩
  have hf : ∀ q ∈ locs, A q.base := hV.2.2.1.2.2
  unfold pz_ret at h
  split at h
  · split at h
    · rename_i hl1
      subst hl1
      cases h
      exact W.vret hx hb hret (hq none (fun v hv => by cases hv)) hf hdg hlocks
    · cases h
  · split at h
    · rename_i hl1
      obtain ⟨hl1, hn⟩ := hl1
      subst hl1
      cases h
      exact W.zret hx hb hret hn (hq (some (.int _)) (fun v hv => by cases hv; exact pz_o_i)) hf hdg hlocks
    · cases h
  · split at h
    · rename_i hl1
      subst hl1
      cases h
      exact W.lret hx hb hret (hq (some (.long _)) (fun v hv => by cases hv; exact pz_o_l)) hf hdg hlocks
    · cases h
  · split at h
    · rename_i hl1
      subst hl1
      cases h
      exact W.aret hx hb hret (Or.inl ⟨_, rfl⟩) (Or.inr ⟨_, rfl⟩) (hq (some (.ref _)) (fun v hv => by cases hv; exact pz_hd hso)) hf hdg hlocks
    · cases h
  · split at h
    · rename_i hl1
      subst hl1
      cases h
      exact W.aret hx hb hret (Or.inr ⟨_, rfl⟩) (Or.inr ⟨_, rfl⟩) (hq (some (.ref _)) (fun v hv => by cases hv; exact pz_hd hso)) hf hdg hlocks
    · cases h
  · cases h
theorem pz_sum (ad : Nat → Nat) (r : List Value) : ((r.map (pz_v ad)).map fun v => v.category) = r.map fun v => v.category := by
  rw [List.map_map]
  exact List.map_congr_left fun v _ => pz_cat ad v
theorem pz_th_ok {p : Program} {e : Env} {s : State} {m : MethodId} {args : Array Value} {below : List Frame} {meth : Method} {c : Code} {H : Heap} {locs : List Loc} {d nc ns : Nat} {ad ad0 : Nat → Nat} {n0 nL pc len ow x : Nat} {lv : List (Nat × Value)} {st : List Value} {w : List pz_C} {cc : ByteArray} {ins : Instr} (hlt : l.stackTraces = false) (hmv : pz_mv E2) (mb : pz_Mb U E2 nm my xn cl M X mt HH CX) (hx : p.tables.exec = Jvm.exec) (hb : c.code = cc) (hml : c.maxLocals = nL) (hts : ∀ x ∈ U, x.before args s = true) (hown : s.vm.findClass (nm ow) = some m.cls) (hlocks : meth.locks = false) (hexc : ∀ x ∈ c.exceptionTable.toList, False) (hV : pz_V D cl cy A s.heap nk ad w H locs) (hOu : pz_Ou cl tk oad OT SF RS A E2 s s.heap) (hag : ∀ i, i < n0 ∨ 1099511627776 ≤ i → ad i = ad0 i) (hn0 : n0 ≤ w.length) (hdg : decode cc pc = .ok (ins, len)) (h : pz_th X cc ins len ow pc st = some x) :
    pz_W p l e (pz_rm d (nc + 1) (ns + 6)) s m args below meth c H locs nc ns (vx_MQ below (pz_Qc D cl cy A nk ad0 n0 (.inr x) w) (pz_XC xn D cl cy A nk ad0 n0 (.inr x) w) args s (nc + 1) (ns + 6) A) ad nL pc lv st := by
  intro ls hl
  have hts2 : ∀ x ∈ U ++ E2, x.before args s = true := fun x hx => (List.mem_append.mp hx).elim (hts x) (fun z => (hmv x z).2.2 args s (hOu.2.2.1 x z))
  unfold pz_th at h
  split at h
  · split at h
    · rename_i hX
      split at h
      · rename_i hq
        obtain ⟨q1, q2, q3, q4, q5⟩ := hq
        subst q1
        cases h
        obtain ⟨names, n1, n2, n3, n4, n5, n6, n7⟩ := mb.2.2.2.2.2.2.2.2.2.2.2.2 _ _ _ _ hX
        have hsum : (((st.map (pz_v ad)).map fun v => v.category)).sum ≤ 8 := by rw [pz_sum]; exact q2
        exact vx_throw0 hx hb hlt hown n2 n3 (hts _ n4) (hts _ n5) (fun y hy => hts2 y (n6 y hy)) n7 hOu.1 hOu.2.1 hV.2.2.1 (hl.1.trans hml.symm) hdg (pz_dq_ok q3) (pz_dq_ok q4) (pz_dq_ok q5) (fun y hy => (hexc y hy).elim)
          (by show names.length + 3 < d + 8; omega) (by show _ ≤ 128 * d + 256; omega) (Nat.le_refl _) (Nat.le_refl _) hlocks (fun t h1 h2 h3 => ⟨_, ad, rfl, rfl, pz_fin hV hag hn0 h2 h3⟩) hV.2.2.1.2.2 (Nat.le_refl _) (Nat.le_refl _)
      · cases h
    · cases h
  · cases h
end PQC
