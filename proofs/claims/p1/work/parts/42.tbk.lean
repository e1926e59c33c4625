/-! ===== the law's entry: a run of the pure machine is the claim ===== -/
theorem pt_room {s : State} {pl : Platform} {R R' : Room} (h : s.hasRoom pl R = true) (h1 : R'.frames ≤ R.frames) (h2 : R'.locals ≤ R.locals) (h3 : R'.cells ≤ R.cells) (h4 : R'.slots ≤ R.slots) : s.hasRoom pl R' = true := by
  simp only [State.hasRoom, Bool.and_eq_true, decide_eq_true_eq] at h ⊢
  obtain ⟨⟨⟨⟨a1, a2, a3, a4, a5, a6⟩, a7⟩, a8⟩, a9⟩ := h
  exact ⟨⟨⟨⟨by omega, by omega, by omega, by omega, by omega, a6⟩, by omega⟩, by omega⟩, a9⟩
theorem pt_Wroom {p : Program} {l : Launch} {e : Env} {R R' : Room} {s : State} {m : MethodId} {args : Array Value} {below : List Frame} {meth : Method} {c : Code} {H : Heap} {locs : List Loc} {cells slots : Nat} {Q : State → Prop} {g : JFrame} (h1 : R'.frames ≤ R.frames) (h2 : R'.locals ≤ R.locals) (h3 : R'.cells ≤ R.cells) (h4 : R'.slots ≤ R.slots) (k : W p l e R' s m args below meth c H locs cells slots Q g) : W p l e R s m args below meth c H locs cells slots Q g :=
  fun T hT X => k T hT { X with room := pt_room X.room h1 h2 h3 h4 }
/-- the script, as a thing outside -/
def pt_sc (L : Nat) (xs : Nat → Int32) (fv : Value) : pt_Sc := (L, (List.range L).map (fun j => (j, .int (xs j))), fv)
theorem pt_sc_g (xs : Nat → Int32) : ∀ (l : List Nat) (j : Nat), j ∈ l → pz_g (l.map fun j => (j, Value.int (xs j))) j = .int (xs j)
  | [], j, h => by cases h
  | a :: l, j, h => by
    show pz_g ((a, Value.int (xs a)) :: l.map fun j => (j, Value.int (xs j))) j = _
    unfold pz_g
    split
    · rename_i hq
      have : a = j := hq
      rw [this]
    · rename_i hq
      exact pt_sc_g xs l j ((List.mem_cons.mp h).elim (fun z => absurd z.symm hq) id)
set_option maxRecDepth 100000 in
theorem pt_C_in : (pt_cl.zipIdx).all (fun q => decide (pt_tbl[(pf_C.getD q.2 (0, 0, [])).1]? = some (.instantiable q.1.1 q.1.2.2))) = true := by decide +kernel
theorem pt_kn {s : State} {args : Array Value} (hts : ∀ w ∈ pt_tbl, w.before args s = true) : ∃ D : va_G, ∀ (c : Nat) (q : vw_C), pt_cl[c]? = some q → u_Kn s q.1 q.2.1 q.2.2 (D.1 c) (D.2 c) := by
  have h0 : ∀ c : Nat, ∃ z : ClassId × (Nat → Nat), ∀ q : vw_C, pt_cl[c]? = some q → u_Kn s q.1 q.2.1 q.2.2 z.1 z.2 := by
    intro c
    cases hc : pt_cl[c]? with
    | none => exact ⟨(0, fun _ => 0), fun q hq => by cases hq⟩
    | some q =>
      obtain ⟨C, T, N⟩ := q
      have hi := List.all_eq_true.mp pt_C_in ((C, T, N), c) (List.mem_zipIdx_iff_getElem?.mpr hc)
      obtain ⟨cC, iS, h⟩ := u_known (ws := pt_tbl) (n := N) hts (fun w hw => pt_Uin w ((pt_C_ok c C T N hc).1 w hw)) (hts _ (List.mem_of_getElem? (of_decide_eq_true hi)))
      exact ⟨(cC, iS), fun q hq => by cases hq; exact h⟩
  obtain ⟨f, hf⟩ := Classical.axiomOfChoice h0
  exact ⟨(fun c => (f c).1, fun c => (f c).2), fun c q hq => hf c q hq⟩
theorem pt_arrP {s : State} {args : Array Value} {ty : FieldType} (h : (Cond.arrayClass ty).before args s = true) : ∃ cA : ClassId, ArrOfT s cA ty ∧ s.vm.findClass ("[" ++ ty.toString) = some cA := by
  obtain ⟨cA, kC, cc, h1, h2, h3⟩ := Cond.arrayClass_spec h
  exact ⟨cA, fun n z => ⟨fun y => by simp [arrV], kC, h2, cc, h3⟩, h1⟩
theorem pt_arrO {s : State} {args : Array Value} {C : String} (h : (Cond.arrayOver (.object C)).before args s = true) : ∃ cA : ClassId, ArrOfT s cA (.object C) ∧ va_RA s cA (.object C) := by
  obtain ⟨comp, cA, k, h1, h2, h3, h4, h5⟩ := Cond.arrayOver_spec h
  exact ⟨cA, fun n z => ⟨fun y => by simp [arrV], k, h3, comp, h4⟩, k, comp, h3, h4, h1, h5⟩
theorem pt_arrA {s : State} {args : Array Value} {t : FieldType} (h : (Cond.arrayOver (.array t)).before args s = true) : ∃ cA : ClassId, ArrOfT s cA (.array t) ∧ s.vm.findClass ("[" ++ (FieldType.array t).toString) = some cA := by
  obtain ⟨comp, cA, k, h1, h2, h3, h4, h5⟩ := arrayOverA_spec h
  exact ⟨cA, fun n z => ⟨fun y => by simp [arrV], k, h3, comp, h4⟩, h5⟩
theorem pt_cy {s : State} {args : Array Value} (hts : ∀ w ∈ pt_tbl, w.before args s = true) : ∃ cy : Nat → ClassId, ∀ k, k < 8 → ArrOfT s (cy k) (pt_tk k) ∧ va_RA s (cy k) (pt_tk k) := by
  have h0 : ∀ k : Nat, ∃ cA : ClassId, k < 8 → ArrOfT s cA (pt_tk k) ∧ va_RA s cA (pt_tk k) := by
    intro k
    match k with
    | 0 => obtain ⟨cA, h1, h2⟩ := pt_arrP (hts _ (pt_Uin _ (pt_w_ok pt_g11))); exact ⟨cA, fun _ => ⟨h1, h2⟩⟩
    | 1 => obtain ⟨cA, h1, h2⟩ := pt_arrP (hts _ (pt_Uin _ (pt_w_ok pt_g12))); exact ⟨cA, fun _ => ⟨h1, h2⟩⟩
    | 2 => obtain ⟨cA, h1, h2⟩ := pt_arrP (hts _ (pt_Uin _ (pt_w_ok pt_g13))); exact ⟨cA, fun _ => ⟨h1, h2⟩⟩
    | 3 => obtain ⟨cA, h1, h2⟩ := pt_arrP (hts _ (pt_Uin _ (pt_w_ok pt_g14))); exact ⟨cA, fun _ => ⟨h1, h2⟩⟩
    | 4 => obtain ⟨cA, h1, h2⟩ := pt_arrO (C := "AssertionBench$Property") (hts _ (List.mem_of_getElem? (i := 413) (by decide +kernel))); exact ⟨cA, fun _ => ⟨h1, h2⟩⟩
    | 5 => obtain ⟨cA, h1, h2⟩ := pt_arrO (C := "AssertionBench$Sequence") (hts _ (List.mem_of_getElem? (i := 420) (by decide +kernel))); exact ⟨cA, fun _ => ⟨h1, h2⟩⟩
    | 6 => obtain ⟨cA, h1, h2⟩ := pt_arrO (C := "AssertionBench$Classes") (hts _ (List.mem_of_getElem? (i := 422) (by decide +kernel))); exact ⟨cA, fun _ => ⟨h1, h2⟩⟩
    | 7 => obtain ⟨cA, h1, h2⟩ := pt_arrA (t := .long) (hts _ (List.mem_of_getElem? (i := 632) (by decide +kernel))); exact ⟨cA, fun _ => ⟨h1, h2⟩⟩
    | n + 8 => exact ⟨0, fun h => absurd h (by omega)⟩
  obtain ⟨f, hf⟩ := Classical.axiomOfChoice h0
  exact ⟨f, hf⟩
theorem pt_tk_k (k : Nat) : (∃ C, pt_tk (k + 4) = .object C) ∨ ∃ t, pt_tk (k + 4) = .array t := by
  match k with
  | 0 => exact Or.inl ⟨_, rfl⟩
  | 1 => exact Or.inl ⟨_, rfl⟩
  | 2 => exact Or.inl ⟨_, rfl⟩
  | n + 3 => exact Or.inr ⟨_, rfl⟩
theorem pt_T_ok (cy : Nat → ClassId) : pz_T pt_tk 8 cy ((List.range 8).map fun k => (cy k, pt_tk k)) := by
  refine ⟨rfl, rfl, rfl, rfl, pt_tk_k, fun k hk => ?_⟩
  rw [List.getElem?_map, List.getElem?_range hk]
  rfl
/-- what holds at the law's entry, its own code word among the tables' -/
def pt_At (p : Program) (s : State) (m : MethodId) (meth : Method) (c : Code) (b L : Nat) (xs : Nat → Int32) : Prop :=
  p.tables.exec = Jvm.exec ∧ c.code = code ∧ meth.sig.returnType = ret ∧ c.maxLocals = 7 ∧ s.vm.findClass "AssertionBenchLaw" = some m.cls ∧ (∀ w ∈ pt_tbl, w.before #[Value.ref b] s = true) ∧ va_X b L xs s s.heap ∧ b < s.heap.size ∧ meth.locks = false ∧ pt_G1.before #[Value.ref b] s = true ∧ meth.name = "law" ∧ c.exceptionTable.toList = []
def pt_P (b : Addr) (xs : List Int32) (args : Array Value) (s : State) : Prop := args = #[.ref b] ∧ s.IntsAt b xs ∧ pt_G1.before args s = true
def pt_Q (_ : Array Value) (s : State) (o : Outcome) (t : State) : Prop := o = .returned (some (.int 1)) ∧ Framed s o t [] 600002 7302232
def pt_Z (below : List Frame) (a : Array Value) (s : State) : State → Prop := fun t => ∃ o, t.status = .running ∧ Ended t below o ∧ pt_Q a s o t
theorem pt_start {p : Program} {e : Env} {s : State} {m : MethodId} {below : List Frame} {meth : Method} {c : Code} (l : Launch) (hlt : l.stackTraces = false) {b L n d c1 s1 : Nat} {xs : Nat → Int32} {w1 : List pz_C} {fv : Value} (hfv : pt_fvo #[Value.ref b] s = fv) (C0 : pt_At p s m meth c b L xs)
    (hrun : pt_run (pt_sc L xs fv) n d 0 0 [(0, .ref 1099511627776)] [] [] 0 0 = some (.inl (some (.int 1)), w1, c1, s1)) (hd : d ≤ 600) (hc : c1 ≤ 600002) (hs : s1 ≤ 7302232) :
    W p l e room_1 s m #[Value.ref b] below meth c s.heap [] 0 0 (pt_Z below #[Value.ref b] s) (entryFrame m ([Value.ref b] : List Value).toArray 7) := by
  obtain ⟨hx, hb, hr, hml, hown, hts, hX, hbl, hlocks, hgv, hname, hexc⟩ := C0
  have hA0 : ∀ a : Nat, a < s.heap.size → ¬ (fun q : Nat => s.heap.size ≤ q) a := fun a h => Nat.not_le.mpr h
  obtain ⟨D, hD0⟩ := pt_kn hts
  obtain ⟨cy, hcy⟩ := pt_cy hts
  have hT := pt_T_ok cy
  have hK : va_K D pt_cl ((List.range 8).map fun k => (cy k, pt_tk k)) s := by
    refine ⟨hD0, fun k q hq => ?_⟩
    rw [List.getElem?_map] at hq
    obtain ⟨k1, hk1, rfl⟩ := Option.map_eq_some_iff.mp hq
    have hlt8 : k < 8 := by
      have := (List.getElem?_eq_some_iff.mp hk1).1
      rw [List.length_range] at this
      exact this
    rw [List.getElem?_range hlt8] at hk1
    cases hk1
    exact hcy k hlt8
  have htm0 : (pt_tm 0).eval #[Value.ref b] s none [] s = some (.ref b) := rfl
  have hOT : ∀ (i : Nat) (y : pz_C), pt_OT (pt_sc L xs fv) i = some y → pz_od pt_cl pt_tk (pt_oad #[Value.ref b] s) (fun q => s.heap.size ≤ q) s s.heap (1099511627776 + i) y := by
    intro i y hy
    unfold pt_OT at hy
    split at hy
    · rename_i hi
      subst hi
      cases hy
      refine ⟨by decide, fun q hq => ?_, ?_⟩
      · obtain ⟨j, -, rfl⟩ := List.mem_map.mp hq
        exact pz_o_i
      · rw [pt_oad_eq, pt_ad_eq htm0]
        obtain ⟨scr, hcb, hof, hkn, hsz, hval⟩ := hX
        refine ⟨scr, hcb, hof, hkn, by rw [hsz]; exact Nat.le_refl _, by rw [hsz]; rfl, fun j hj => ?_, hA0 b hbl⟩
        rw [hval j hj]
        show some (Value.int (xs j)) = some (.int (pz_I (pz_g ((List.range L).map fun j => (j, Value.int (xs j))) j)))
        rw [pt_sc_g xs (List.range L) j (List.mem_range.mpr hj)]
        rfl
    · exact (pt_OT_ok hgv hA0 i y hy).2
  have hTh := pt_Th_ok hts hgv hA0
  have hOu : pz_Ou pt_cl pt_tk (pt_oad #[Value.ref b] s) (pt_OT (pt_sc L xs fv)) (pt_SFf fv) pt_RS (fun q => s.heap.size ≤ q) pt_E s s.heap := ⟨hTh.1, hTh.2, pt_E_ok hts hgv, hOT, hfv ▸ pt_SF_ok hts hgv hA0, pt_RS_ok hts hgv hA0⟩
  have hfo : pz_o 0 fv := by
    rcases pt_fvo_or #[Value.ref b] s with h | h
    · rw [← hfv, h]
      exact pz_o_n
    · rw [← hfv, h]
      exact fun i hi => by cases hi; exact Or.inr (by decide)
  have hsnd := pz_sound (l := l) (D := D) (A := fun q => s.heap.size ≤ q) (oad := pt_oad #[Value.ref b] s) (OT := pt_OT (pt_sc L xs fv)) (U := pt_U) (E2 := pt_E) (my := pt_my) (xn := pt_xn) hlt pt_mv (pt_Tb hfo) pt_Mb hT n
  have hV : pz_V D pt_cl cy (fun q => s.heap.size ≤ q) s.heap 8 (pt_oad #[Value.ref b] s) [] s.heap [] := ⟨fun k q h => (by cases h), ⟨fun i j p q h => (by cases h), fun k q h => (by cases h)⟩, va_S.rf, (by decide), fun z hz => (List.not_mem_nil hz).elim, fun a k n z h => (by cases h)⟩
  have hw := hsnd d 0 0 [(0, .ref 1099511627776)] [] [] 0 0 (.inl (some (.int 1))) w1 c1 s1 0 code 7 false (some .boolean) 999 1 hrun rfl p e s m #[Value.ref b] below meth c s.heap [] (pt_oad #[Value.ref b] s) (pt_oad #[Value.ref b] s) 0 hx hb hml (fun w hw => hts w (pt_Uin w hw)) hown hr hlocks hname (by rw [hexc]; rfl) hK hV (fun q h => h) hOu (fun z hz => by rw [List.mem_singleton.mp hz]; exact fun i hi => by cases hi; exact Or.inr (Nat.le_refl _)) (fun z hz => (List.not_mem_nil hz).elim) (fun _ _ => rfl) (Nat.le_refl _) (fun _ _ => rfl)
  have hl := lv_entry ([.ref b]) (n := 7) (Nat.le_of_ble_eq_true rfl)
  rw [lg_entry_eq]
  refine pt_Wroom (R' := pz_rm d c1 s1) ?_ ?_ hc hs (fun T hT X => ?_)
  · show d + 8 ≤ 2048
    omega
  · show 128 * d + 256 ≤ 84000
    omega
  · have hl2 : lv_has (lg_sl [.ref b] ++ List.replicate (7 - (lg_sl [.ref b]).length) Slot.unset).toArray 7 (pz_l (pt_oad #[Value.ref b] s) [(0, .ref 1099511627776)]) := by
      have e1 : pz_l (pt_oad #[Value.ref b] s) [(0, .ref 1099511627776)] = [(0, .ref b)] := by
        show [(0, Value.ref (pt_oad #[Value.ref b] s 1099511627776))] = _
        have := pt_oad_eq #[Value.ref b] s 0
        rw [pt_ad_eq htm0] at this
        rw [show (1099511627776 : Nat) = 1099511627776 + 0 from rfl, this]
      rw [e1]
      exact hl
    obtain ⟨t, a1, o, b1, b2, b3⟩ := hw _ hl2 T hT X
    refine ⟨t, a1, o, b1, b2, ?_⟩
    rcases b3 with ⟨⟨r, ad1, h1, h2, -, -⟩, L1, hF, hL1⟩ | ⟨q, -, E, ce, L1, ⟨x1, ad1, h1, -⟩, -⟩
    · cases h1
      refine ⟨h2, hF.1, hF.2.1, ?_⟩
      have h5 := hF.2.2
      have h6 : s.sameButNew { t with vm := s.vm } ([] ++ L1) c1 s1 := by rw [List.nil_append]; exact h5
      exact (h6.drop_fresh (fun z hz => hL1 z hz)).mono hc hs
    · cases h1
