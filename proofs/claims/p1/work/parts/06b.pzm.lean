/-! ===== 'new long[2][n]' ===== -/
def pz_in (comp : ClassId) (M : Nat) : Cell := { cls := comp, slots := Array.replicate M (.long 0), vm := .none }
def pz_ou (c : ClassId) (x y : Value) : Cell := { cls := c, slots := #[x, y], vm := .none }
section PMA0
variable {E : CtlPost} {e : Env} {d : Bool} {acts : List Action} {s : State}
theorem pz_wpa {c comp : ClassId} {k : Class} {type : FieldType} {len : Nat} {init : Value} (hk : s.vm.classes[c]? = some k) (hkind : k.kind = .array comp type)
    (hlimit : ¬ len > e.platform.arrayLengthLimit) (hheap : ¬ len * componentBytes type > e.platform.maxHeapBytes) (hfit : fits type init = true) (hdef : init.isDefault = true) {Q : Addr → Pre}
    (h1 : s.heap.size < e.platform.maxCells) (h2 : s.slotsUsed + len ≤ e.platform.maxSlots)
    (hq : Q s.heap.size d acts (s.pushCell { cls := c, slots := Array.replicate len init, vm := .none })) :
    wp (Jvm.newArray c len init) Q E e d acts s := by
  have hf : ∀ i v, (Array.replicate len init)[i]? = some v → s.fitsSlot c .none i v = true := by
    intro i v hv
    rw [Array.getElem?_replicate] at hv
    split at hv
    · cases hv
      simp [State.fitsSlot, State.slotType?, hk, hkind, hfit]
    · cases hv
  have ha : allocActs (Array.replicate len init) s.heap.size acts = acts := by
    have hall : ((Array.replicate len init).all (·.isDefault)) = true := by
      rw [Array.all_replicate]
      split <;> simp [hdef]
    unfold allocActs
    rw [if_pos hall]
  simp only [Jvm.newArray, Jvm.arrayFits, wp_bind', W.ask, W.ite, hlimit, if_false, wp_pure', W.theClass, hk, hkind, hheap, W.alloc, W.stop, Option.some.injEq, exists_eq_left', Array.size_replicate, ha]
  rw [if_neg (by omega)]
  exact ⟨h1, h2, hf, hq⟩
theorem pz_wp1 {comp cc : ClassId} {kc : Class} {m : Int32} (hkc : s.vm.classes[comp]? = some kc) (hkindc : kc.kind = .array cc .long) (hm : ¬ m < 0)
    (hl2 : ¬ m.toNatClampNeg > e.platform.arrayLengthLimit) (hh2 : ¬ m.toNatClampNeg * componentBytes .long > e.platform.maxHeapBytes)
    (h1 : s.heap.size < e.platform.maxCells) (h2 : s.slotsUsed + m.toNatClampNeg ≤ e.platform.maxSlots)
    {Q : Addr → Pre} (hq : Q s.heap.size d acts (s.pushCell (pz_in comp m.toNatClampNeg))) :
    wp (multianewarray.make comp [m]) Q E e d acts s := by
  rw [multianewarray.make]
  simp only [wp_bind', W.ite, hm, if_false, wp_pure', W.theClass, hkc, hkindc, Option.some.injEq, exists_eq_left']
  exact pz_wpa hkc hkindc hl2 hh2 rfl rfl h1 h2 hq
/-- the heap behind it -/
def pz_ma (s : State) (c comp : ClassId) (M : Nat) : State := ((((s.pushCell (pz_ou c .null .null)).pushCell (pz_in comp M)).setCell s.heap.size (pz_ou c (.ref (s.heap.size + 1)) .null)).pushCell (pz_in comp M)).setCell s.heap.size (pz_ou c (.ref (s.heap.size + 1)) (.ref (s.heap.size + 2)))
theorem pz_wp2 {c comp cc : ClassId} {k kc : Class} {m : Int32} (hk : s.vm.classes[c]? = some k) (hkind : k.kind = .array comp (.array .long))
    (hkc : s.vm.classes[comp]? = some kc) (hkindc : kc.kind = .array cc .long) (hm : ¬ m < 0)
    (hl1 : ¬ 2 > e.platform.arrayLengthLimit) (hh1 : ¬ 2 * componentBytes (.array .long) > e.platform.maxHeapBytes)
    (hl2 : ¬ m.toNatClampNeg > e.platform.arrayLengthLimit) (hh2 : ¬ m.toNatClampNeg * componentBytes .long > e.platform.maxHeapBytes)
    (hc : s.heap.size + 3 ≤ e.platform.maxCells) (hs : s.slotsUsed + 2 + 2 * m.toNatClampNeg ≤ e.platform.maxSlots)
    {Q : Addr → Pre} (hq : ∀ d' acts', Q s.heap.size d' acts' (pz_ma s c comp m.toNatClampNeg)) :
    wp (multianewarray.make c [2, m]) Q E e d acts s := by
  have hfind : ([m].find? (· < 0)) = none := by simp [hm]
  have h2 : ((2 : Int32).toNatClampNeg) = 2 := by decide
  have h20 : ¬ (2 : Int32) < 0 := by decide
  rw [multianewarray.make]
  simp only [wp_bind', W.ite, h20, if_false, wp_pure', W.theClass, hk, hkind, Option.some.injEq, exists_eq_left']
  refine pz_wpa hk hkind (by rw [h2]; exact hl1) (by rw [h2]; exact hh1) rfl rfl (by omega) (by rw [h2]; omega) ?_
  simp only [hfind]
  rw [ite_self, wp_bind', Std.Legacy.Range.forIn_eq_forIn_range']
  have hsz : ([:(2 : Int32).toNatClampNeg] : Std.Legacy.Range).size = 2 := by decide
  rw [hsz]
  show wp (forIn (List.range' 0 2 1) PUnit.unit _) _ E e d acts _
  have e0 : (Array.replicate (2 : Int32).toNatClampNeg Value.null) = #[.null, .null] := by rw [h2]; rfl
  rw [e0]
  show wp (forIn [0, 1] PUnit.unit _) _ E e d acts (s.pushCell (pz_ou c .null .null))
  simp only [List.forIn_cons, List.forIn_nil, wp_bind', wp_pure']
  have z0 : (s.pushCell (pz_ou c .null .null)).heap.size = s.heap.size + 1 := by simp
  have y0 : s.heap.size < (s.pushCell (pz_ou c .null .null)).heap.size := by rw [z0]; exact Nat.lt_succ_self _
  refine pz_wp1 (s := s.pushCell (pz_ou c .null .null)) hkc hkindc hm hl2 hh2 (by rw [z0]; omega) (by show s.slotsUsed + 2 + _ ≤ _; omega) ?_
  simp only [W.writeLoc, wp_pure', wp_bind']
  have g1 : ((s.pushCell (pz_ou c .null .null)).pushCell (pz_in comp m.toNatClampNeg)).heap[s.heap.size]? = some (pz_ou c .null .null) := by
    rw [State.heap_pushCell_of_lt (h := y0)]
    exact State.heap_pushCell_size _ _
  refine ⟨pz_ou c .null .null, g1, by simp [pz_ou], by simp [pz_ou], ?_, ?_⟩
  · simp [State.fitsSlot, State.slotType?, pz_ou, hk, hkind, fits]
  have z1 : (((s.pushCell (pz_ou c .null .null)).pushCell (pz_in comp m.toNatClampNeg)).setCell s.heap.size (pz_ou c (.ref (s.heap.size + 1)) .null)).heap.size = s.heap.size + 2 := by simp [State.setCell]
  have y1 : s.heap.size < (((s.pushCell (pz_ou c .null .null)).pushCell (pz_in comp m.toNatClampNeg)).setCell s.heap.size (pz_ou c (.ref (s.heap.size + 1)) .null)).heap.size := by rw [z1]; omega
  have e1 : (pz_ou c .null .null).setSlot 0 (.ref (s.pushCell (pz_ou c .null .null)).heap.size) = pz_ou c (.ref (s.heap.size + 1)) .null := by rw [z0]; rfl
  rw [e1]
  refine pz_wp1 (s := ((s.pushCell (pz_ou c .null .null)).pushCell (pz_in comp m.toNatClampNeg)).setCell s.heap.size (pz_ou c (.ref (s.heap.size + 1)) .null)) hkc hkindc hm hl2 hh2 (by rw [z1]; omega) (by show s.slotsUsed + 2 + (Array.replicate m.toNatClampNeg (Value.long 0)).size + _ ≤ _; rw [Array.size_replicate]; omega) ?_
  have g2 : ((((s.pushCell (pz_ou c .null .null)).pushCell (pz_in comp m.toNatClampNeg)).setCell s.heap.size (pz_ou c (.ref (s.heap.size + 1)) .null)).pushCell (pz_in comp m.toNatClampNeg)).heap[s.heap.size]? = some (pz_ou c (.ref (s.heap.size + 1)) .null) := by
    rw [State.heap_pushCell_of_lt (h := y1)]
    exact State.heap_setCell_self g1
  refine ⟨pz_ou c (.ref (s.heap.size + 1)) .null, g2, by simp [pz_ou], by simp [pz_ou], ?_, ?_⟩
  · simp [State.fitsSlot, State.slotType?, pz_ou, hk, hkind, fits]
  have e2 : (pz_ou c (.ref (s.heap.size + 1)) .null).setSlot 1 (.ref (((s.pushCell (pz_ou c .null .null)).pushCell (pz_in comp m.toNatClampNeg)).setCell s.heap.size (pz_ou c (.ref (s.heap.size + 1)) .null)).heap.size) = pz_ou c (.ref (s.heap.size + 1)) (.ref (s.heap.size + 2)) := by rw [z1]; rfl
  rw [e2]
  exact hq _ _
theorem pz_ma_heap (s : State) (c comp : ClassId) (M : Nat) : (pz_ma s c comp M).heap.size = s.heap.size + 3 ∧ (pz_ma s c comp M).heap[s.heap.size]? = some (pz_ou c (.ref (s.heap.size + 1)) (.ref (s.heap.size + 2))) ∧ (pz_ma s c comp M).heap[s.heap.size + 1]? = some (pz_in comp M) ∧ (pz_ma s c comp M).heap[s.heap.size + 2]? = some (pz_in comp M) ∧ ∀ q, q < s.heap.size → (pz_ma s c comp M).heap[q]? = s.heap[q]? := by
  have z0 : (s.pushCell (pz_ou c .null .null)).heap.size = s.heap.size + 1 := by simp
  have y0 : s.heap.size < (s.pushCell (pz_ou c .null .null)).heap.size := by rw [z0]; exact Nat.lt_succ_self _
  have z1 : (((s.pushCell (pz_ou c .null .null)).pushCell (pz_in comp M)).setCell s.heap.size (pz_ou c (.ref (s.heap.size + 1)) .null)).heap.size = s.heap.size + 2 := by simp [State.setCell]
  have y1 : s.heap.size < (((s.pushCell (pz_ou c .null .null)).pushCell (pz_in comp M)).setCell s.heap.size (pz_ou c (.ref (s.heap.size + 1)) .null)).heap.size := by rw [z1]; omega
  have g1 : ((s.pushCell (pz_ou c .null .null)).pushCell (pz_in comp M)).heap[s.heap.size]? = some (pz_ou c .null .null) := by
    rw [State.heap_pushCell_of_lt (h := y0)]
    exact State.heap_pushCell_size _ _
  have g2 : ((((s.pushCell (pz_ou c .null .null)).pushCell (pz_in comp M)).setCell s.heap.size (pz_ou c (.ref (s.heap.size + 1)) .null)).pushCell (pz_in comp M)).heap[s.heap.size]? = some (pz_ou c (.ref (s.heap.size + 1)) .null) := by
    rw [State.heap_pushCell_of_lt (h := y1)]
    exact State.heap_setCell_self g1
  have o1 : s.heap.size ≠ s.heap.size + 1 := by omega
  have o2 : s.heap.size ≠ s.heap.size + 2 := by omega
  have y2 : s.heap.size + 1 < (((s.pushCell (pz_ou c .null .null)).pushCell (pz_in comp M)).setCell s.heap.size (pz_ou c (.ref (s.heap.size + 1)) .null)).heap.size := by rw [z1]; omega
  refine ⟨by simp [pz_ma, State.setCell], State.heap_setCell_self g2, ?_, ?_, fun q hq => ?_⟩
  · unfold pz_ma
    rw [State.heap_setCell_other o1, State.heap_pushCell_of_lt (h := y2), State.heap_setCell_other o1]
    have := State.heap_pushCell_size (s.pushCell (pz_ou c .null .null)) (pz_in comp M)
    rw [z0] at this
    exact this
  · unfold pz_ma
    rw [State.heap_setCell_other o2]
    have := State.heap_pushCell_size (((s.pushCell (pz_ou c .null .null)).pushCell (pz_in comp M)).setCell s.heap.size (pz_ou c (.ref (s.heap.size + 1)) .null)) (pz_in comp M)
    rw [z1] at this
    exact this
  · have o3 : s.heap.size ≠ q := by omega
    have y3 : q < (((s.pushCell (pz_ou c .null .null)).pushCell (pz_in comp M)).setCell s.heap.size (pz_ou c (.ref (s.heap.size + 1)) .null)).heap.size := by rw [z1]; omega
    have y4 : q < (s.pushCell (pz_ou c .null .null)).heap.size := by rw [z0]; omega
    unfold pz_ma
    rw [State.heap_setCell_other o3, State.heap_pushCell_of_lt (h := y3), State.heap_setCell_other o3, State.heap_pushCell_of_lt (h := y4), State.heap_pushCell_of_lt (h := hq)]
theorem pz_ma_top (s : State) (f : JFrame) (c comp : ClassId) (M : Nat) : pz_ma (s.setTop f) c comp M = (pz_ma s c comp M).setTop f := by
  simp only [pz_ma, State.heap_setTop, State.pushCell_setTop, State.setCell_setTop]
end PMA0
section PMA1
variable {p : Program} {l : Launch} {e : Env} {R : Room} {s : State} {m : MethodId} {args : Array Value} {below : List Frame} {meth : Method} {c : Code} {H : Heap} {locs : List Loc} {cells slots : Nat} {Q : State → Prop} {T : State}
theorem pz_ma_st (X : Stand p l e R s m args below meth c T locs cells slots) (cA comp : ClassId) (M : Nat) : Stand p l e R s m args below meth c (pz_ma T cA comp M) locs (cells + 3) (slots + 2 + 2 * M) := by
  have z0 : (T.pushCell (pz_ou cA .null .null)).heap.size = T.heap.size + 1 := by simp
  have y0 : T.heap.size < (T.pushCell (pz_ou cA .null .null)).heap.size := by rw [z0]; exact Nat.lt_succ_self _
  have z1 : (((T.pushCell (pz_ou cA .null .null)).pushCell (pz_in comp M)).setCell T.heap.size (pz_ou cA (.ref (T.heap.size + 1)) .null)).heap.size = T.heap.size + 2 := by simp [State.setCell]
  have y1 : T.heap.size < (((T.pushCell (pz_ou cA .null .null)).pushCell (pz_in comp M)).setCell T.heap.size (pz_ou cA (.ref (T.heap.size + 1)) .null)).heap.size := by rw [z1]; omega
  have g1 : ((T.pushCell (pz_ou cA .null .null)).pushCell (pz_in comp M)).heap[T.heap.size]? = some (pz_ou cA .null .null) := by
    rw [State.heap_pushCell_of_lt (h := y0)]
    exact State.heap_pushCell_size _ _
  have g2 : ((((T.pushCell (pz_ou cA .null .null)).pushCell (pz_in comp M)).setCell T.heap.size (pz_ou cA (.ref (T.heap.size + 1)) .null)).pushCell (pz_in comp M)).heap[T.heap.size]? = some (pz_ou cA (.ref (T.heap.size + 1)) .null) := by
    rw [State.heap_pushCell_of_lt (h := y1)]
    exact State.heap_setCell_self g1
  have X1 := ((X.pushed (pz_ou cA .null .null)).pushed (pz_in comp M)).stored g1 0 (.ref (T.heap.size + 1))
  have X2 := (X1.pushed (pz_in comp M)).stored g2 1 (.ref (T.heap.size + 2))
  have hs : (pz_in comp M).slots.size = M := by simp [pz_in]
  have ho : (pz_ou cA .null .null).slots.size = 2 := rfl
  rw [hs, ho, List.append_assoc] at X2
  have X3 := X2.dropFresh (fun x hx => by
    have hx2 : x.base = T.heap.size := by
      rcases List.mem_append.mp hx with h | h
      · rw [List.mem_singleton.mp h]
      · rw [List.mem_singleton.mp h]
    rw [hx2]
    exact X.heapGrown)
  rw [show cells + 1 + 1 + 1 = cells + 3 from rfl, show slots + 2 + M + M = slots + 2 + 2 * M by omega] at X3
  exact X3
theorem pz_ma_W {cc : ByteArray} (hexec : p.tables.exec = Jvm.exec) (hb : c.code = cc) {own : String} {index : Nat} (hown : s.vm.findClass own = some m.cls) (hclink : (Cond.classLink own index "[[J").before args s = true) (hover : (Cond.arrayOver (.array .long)).before args s = true) (harr : (Cond.arrayClass .long).before args s = true)
    {pc : Nat} {ls : Array Slot} (hdg : decode cc pc = .ok (.multianewarray index 2, 4)) {k : Int32} {rest : List Value} (hk : ¬ k < 0) (hb2 : k.toNatClampNeg ≤ 67108864) (hcells : cells + 3 ≤ R.cells) (hslots : slots + (2 + 2 * k.toNatClampNeg) ≤ R.slots)
    (kk : ∀ (cA comp : ClassId) (H1 : Heap), s.vm.findClass "[[J" = some cA → s.vm.findClass "[J" = some comp → H1.size = H.size + 3 → H1[H.size]? = some (pz_ou cA (.ref (H.size + 1)) (.ref (H.size + 2))) → H1[H.size + 1]? = some (pz_in comp k.toNatClampNeg) → H1[H.size + 2]? = some (pz_in comp k.toNatClampNeg) → (∀ q, q < H.size → H1[q]? = H[q]?) →
      W p l e R s m args below meth c H1 locs (cells + 3) (slots + 2 + 2 * k.toNatClampNeg) Q (F0 m (pc + 4) ls (.ref H.size :: rest))) : W p l e R s m args below meth c H locs cells slots Q (F0 m pc ls (.int k :: .int 2 :: rest)) := by
  intro T hT X
  subst hT; subst hb
  have hpl : e.platform.magicAccessors = ({} : Platform).magicAccessors := by rw [X.admits.platform]
  obtain ⟨comp, cA, kA, hcomp, -, hkA, hkindA, hnameA⟩ := arrayOverA_spec hover
  obtain ⟨comp', kC, cc0, hcomp', hkC, hkindC⟩ := Cond.arrayClass_spec harr
  have ecomp : comp' = comp := Option.some.inj (hcomp'.symm.trans hcomp)
  subst ecomp
  obtain ⟨c0, hfc0, hcl⟩ := Cond.classLink_spec hown hclink e.platform hpl
  have ecA : cA = c0 := Option.some.inj (hnameA.symm.trans hfc0)
  subst ecA
  obtain ⟨hg₁, hwarm₁, hready₁⟩ := State.classEntry (e := e) X.warmed hcl
  generalize T.vm.noted m.cls index (.cls cA) = vm₁ at hg₁ hwarm₁ hready₁
  have hal : s.vm.Alike vm₁ := hwarm₁.alike
  obtain ⟨kA₁, hkA₁, heA⟩ := hal.2.2 _ _ hkA
  obtain ⟨kC₁, hkC₁, heC⟩ := hal.2.2 _ _ hkC
  have hkindA₁ : kA₁.kind = .array comp' (.array .long) := by rw [heA]; exact hkindA
  have hkindC₁ : kC₁.kind = .array cc0 .long := by rw [heC]; exact hkindC
  have X₁ := X.noted hwarm₁
  obtain ⟨hr1, hr2⟩ := X.roomAbove hcells hslots
  have XF := pz_ma_st X₁ cA comp' k.toNatClampNeg
  obtain ⟨f1, f2, f3, f4, f5⟩ := pz_ma_heap (T.setVm vm₁) cA comp' k.toNatClampNeg
  obtain ⟨t, a1, b1⟩ := kk cA comp' _ hnameA hcomp f1 f2 f3 f4 f5 _ rfl XF
  refine ⟨t, ?_, b1⟩
  have hl1 : ¬ 2 > e.platform.arrayLengthLimit := by rw [Launch.admits_arrayLengthLimit X.admits]; omega
  have hh1 : ¬ 2 * componentBytes (.array .long) > e.platform.maxHeapBytes := by
    rw [Launch.admits_maxHeapBytes X.admits]; show ¬ 2 * 4 > 536870912; omega
  have hl2 : ¬ k.toNatClampNeg > e.platform.arrayLengthLimit := by rw [Launch.admits_arrayLengthLimit X.admits]; omega
  have hh2 : ¬ k.toNatClampNeg * componentBytes .long > e.platform.maxHeapBytes := by rw [Launch.admits_maxHeapBytes X.admits]; show ¬ k.toNatClampNeg * 8 > 536870912; omega
  jvm_step X.here [hexec, hdg]
  simp only [multianewarray.sem, wp_bind', W.resolveClassAt_links (State.method?_setTop (F0 m pc ls (.int k :: .int 2 :: rest)) X.here.top) hg₁]
  rw [W.popN, if_neg (by decide)]
  refine ⟨F0 m pc ls (.int k :: .int 2 :: rest), State.topJava?_setTop' (s := T.setVm vm₁) _ X.here.top, [.int 2, .int k], rest, rfl, rfl, ?_⟩
  simp only [List.mapM_cons, List.mapM_nil, wp_bind', wp_pure']
  refine pz_wp2 (k := kA₁) (kc := kC₁) (comp := comp') (cc := cc0) hkA₁ hkindA₁ hkC₁ hkindC₁ hk hl1 hh1 hl2 hh2 (by show T.heap.size + 3 ≤ _; omega) (by show T.slotsUsed + _ + _ ≤ _; omega) (fun d' acts' => ?_)
  have eS : ((T.setTop (F0 m pc ls (.int k :: .int 2 :: rest))).setVm vm₁).setTop (F0 m pc ls rest) = (T.setVm vm₁).setTop (F0 m pc ls rest) := by
    show ((T.setVm vm₁).setTop _).setTop _ = _
    rw [State.setTop_setTop]
  rw [eS, pz_ma_top]
  simp only [wp_bind', W.mark, W.pushRef, State.topJava?_setTop' _ XF.here.top, Option.some.injEq, exists_eq_left', State.setTop_setTop, State.heap_setTop]
  intro acts
  simp [jvm, XF.here.top]
  exact a1
end PMA1
theorem pz_ou_eq (cA : ClassId) (f : Nat → Option Nat) {x y : Nat} (h0 : f 0 = some x) (h1 : f 1 = some y) : pz_ou cA (.ref x) (.ref y) = vp_cell cA (2, .inr (.inr (.inr (.inr f)))) := by
  rw [vp_cell_q]
  unfold pz_ou arrV
  congr 1
  apply Array.ext
  · simp
  · intro i h2 h3
    have hi : i = 0 ∨ i = 1 := by
      have : i < 2 := h2
      omega
    rcases hi with rfl | rfl
    · simp [h0, va_rf]
    · simp [h1, va_rf]
theorem pz_in_eq (cA : ClassId) (M : Nat) : pz_in cA M = vp_cell cA (M, pz_ct (fun i => i) 1 []) := by
  show _ = vp_cell cA (M, .inr (.inl (fun j => pz_L (pz_g [] j))))
  rw [vp_cell_l]
  unfold pz_in arrV
  congr 1
  apply Array.ext
  · simp
  · intro i h2 h3
    simp
    rfl
section PMA2
variable {p : Program} {l : Launch} {e : Env} {R : Room} {s : State} {m : MethodId} {args : Array Value} {below : List Frame} {meth : Method} {c : Code} {H : Heap} {locs : List Loc} {cells slots : Nat} {Q : State → Prop} {cc : ByteArray} {ad : Nat → Nat} {nL pc : Nat} {lv : List (Nat × Value)}
variable {D : va_G} {cl : List vw_C} {tys : List (ClassId × FieldType)} {cy : Nat → ClassId} {A : Nat → Prop} {w : List pz_C} {H0 : Heap} {own : String} {tk : Nat → FieldType}
def pz_up3 (ad : Nat → Nat) (n q : Nat) : Nat → Nat := va_up (va_up (va_up ad n q) (n + 1) (q + 1)) (n + 2) (q + 2)
theorem pz_up3_old {ad : Nat → Nat} {n q : Nat} (hn : n < 999999990) : ∀ i, i < n ∨ 1099511627776 ≤ i → pz_up3 ad n q i = ad i := fun i h => by
  unfold pz_up3
  rw [va_up_ne _ _ (by omega), va_up_ne _ _ (by omega), va_up_ne _ _ (by omega)]
theorem pz_up3_c {n q : Nat} {x : pz_C} (hn : n < 999999990) (h : pz_oc n x) : pz_c cy (pz_up3 ad n q) x = pz_c cy ad x := by
  unfold pz_up3
  rw [pz_c_up (by omega) (pz_oc_mono (Nat.le_add_right n 2) h), pz_c_up (by omega) (pz_oc_mono (Nat.le_add_right n 1) h), pz_c_up (by omega) h]
theorem pz_up3_v {n q : Nat} {v : Value} (hn : n < 999999990) (h : pz_o n v) : pz_v (pz_up3 ad n q) v = pz_v ad v := by
  unfold pz_up3
  rw [pz_v_up (by omega) (pz_o_mono (Nat.le_add_right n 2) h), pz_v_up (by omega) (pz_o_mono (Nat.le_add_right n 1) h), pz_v_up (by omega) h]
def pz_maw (n k N : Nat) : List pz_C := [.inl (k + 4, 2, [(0, .ref (n + 1)), (1, .ref (n + 2))]), .inl (1, N, []), .inl (1, N, [])]
theorem pz_ma_ok {nk k index : Nat} {b : Int32} {st : List Value} (hx : p.tables.exec = Jvm.exec) (hb : c.code = cc) (hown : s.vm.findClass own = some m.cls) (hclink : (Cond.classLink own index "[[J").before args s = true) (hover : (Cond.arrayOver (.array .long)).before args s = true) (harr : (Cond.arrayClass .long).before args s = true) (hK : va_K D cl tys s) (hT : pz_T tk nk cy tys) (htk : tk (k + 4) = .array .long) (hk : k + 4 < nk) (hP : va_P D cl (pz_w cy ad w) H) (hD : va_D A (pz_w cy ad w)) (hS : va_S A H0 H locs) (hA : ∀ q, H0.size ≤ q → A q)
    (hn : ¬ b < 0) (hbytes : b.toNatClampNeg ≤ 67108864) (hcells : cells + 3 ≤ R.cells) (hslots : slots + (2 + 2 * b.toNatClampNeg) ≤ R.slots) (hlen : w.length < 999999990) (hwo : ∀ z ∈ w, pz_oc w.length z) (hlo : ∀ z ∈ lv, pz_o w.length z.2) (hso : ∀ z ∈ st, pz_o w.length z) (hdg : decode cc pc = .ok (.multianewarray index 2, 4))
    (kk : ∀ (ad1 : Nat → Nat) (H1 : Heap), (∀ i, i < w.length ∨ 1099511627776 ≤ i → ad1 i = ad i) → va_P D cl (pz_w cy ad1 (w ++ pz_maw w.length k b.toNatClampNeg)) H1 → va_D A (pz_w cy ad1 (w ++ pz_maw w.length k b.toNatClampNeg)) → va_S A H0 H1 locs → pz_W p l e R s m args below meth c H1 locs (cells + 3) (slots + (2 + 2 * b.toNatClampNeg)) Q ad1 nL (pc + 4) lv (.ref w.length :: st)) :
    pz_W p l e R s m args below meth c H locs cells slots Q ad nL pc lv (.int b :: .int 2 :: st) := by
  intro ls hl
  refine pz_ma_W hx hb hown hclink hover harr hdg hn hbytes hcells hslots (fun cA comp H1 fA fC z0 z1 z2 z3 z4 => ?_)
  have hcA : cA = cy (k + 4) := by
    have h := (hK.2 (k + 4) _ (hT.2.2.2.2.2 (k + 4) hk)).2
    rw [htk] at h
    have e1 : "[" ++ (FieldType.array FieldType.long).toString = "[[J" := by decide
    have h2 : s.vm.findClass ("[" ++ (FieldType.array FieldType.long).toString) = some (cy (k + 4)) := h
    rw [e1] at h2
    exact Option.some.inj (fA.symm.trans h2)
  have hcI : comp = cy 1 := by
    have h := (hK.2 1 _ (hT.2.2.2.2.2 1 (by omega))).2
    rw [hT.2.1] at h
    have e1 : "[" ++ (FieldType.long).toString = "[J" := by decide
    have h2 : s.vm.findClass ("[" ++ (FieldType.long).toString) = some (cy 1) := h
    rw [e1] at h2
    exact Option.some.inj (fC.symm.trans h2)
  subst hcA
  subst hcI
  have u0 : pz_up3 ad w.length H.size w.length = H.size := by
    unfold pz_up3
    rw [va_up_ne _ _ (by omega), va_up_ne _ _ (by omega), va_up_self]
  have u1 : pz_up3 ad w.length H.size (w.length + 1) = H.size + 1 := by
    unfold pz_up3
    rw [va_up_ne _ _ (by omega), va_up_self]
  have u2 : pz_up3 ad w.length H.size (w.length + 2) = H.size + 2 := by
    unfold pz_up3
    rw [va_up_self]
  have hlw : (pz_w cy ad w).length = w.length := by simp [pz_w]
  have key : ∀ (j : Nat) (q : Nat × va_E), (pz_w cy (pz_up3 ad w.length H.size) (w ++ pz_maw w.length k b.toNatClampNeg))[j]? = some q → (j < w.length ∧ (pz_w cy ad w)[j]? = some q) ∨ (∃ t, t < 3 ∧ j = w.length + t ∧ q.1 = H.size + t ∧ va_at D cl q H1) := by
    intro j q hj
    rw [pz_w_get] at hj
    by_cases hjl : j < w.length
    · refine Or.inl ⟨hjl, ?_⟩
      rw [List.getElem?_append_left hjl] at hj
      rw [pz_w_get]
      have hm : w[j]? = some w[j] := List.getElem?_eq_getElem hjl
      rw [hm] at hj ⊢
      rw [← hj]
      show some (ad j, pz_c cy ad w[j]) = some (pz_up3 ad w.length H.size j, pz_c cy (pz_up3 ad w.length H.size) w[j])
      rw [pz_up3_old hlen j (Or.inl hjl), pz_up3_c hlen (hwo _ (List.getElem_mem hjl))]
    · rw [List.getElem?_append_right (by omega)] at hj
      have h3 : j - w.length < 3 := by
        rcases Nat.lt_or_ge (j - w.length) 3 with h | h
        · exact h
        · rw [List.getElem?_eq_none (by exact h)] at hj
          cases hj
      refine Or.inr ⟨j - w.length, h3, by omega, ?_⟩
      rcases (show j - w.length = 0 ∨ j - w.length = 1 ∨ j - w.length = 2 by omega) with ht | ht | ht
      · rw [ht] at hj ⊢
        have hjj : j = w.length := by omega
        subst hjj
        cases hj
        refine ⟨u0, ?_⟩
        show H1[pz_up3 ad w.length H.size w.length]? = _
        rw [u0, z1]
        refine congrArg some (pz_ou_eq (cy (k + 4)) _ ?_ ?_)
        · show some (pz_up3 ad w.length H.size (w.length + 1)) = _
          rw [u1]
        · show some (pz_up3 ad w.length H.size (w.length + 2)) = _
          rw [u2]
      · rw [ht] at hj ⊢
        have hjj : j = w.length + 1 := by omega
        subst hjj
        cases hj
        refine ⟨u1, ?_⟩
        show H1[pz_up3 ad w.length H.size (w.length + 1)]? = _
        rw [u1, z2]
        exact congrArg some (pz_in_eq (cy 1) _)
      · rw [ht] at hj ⊢
        have hjj : j = w.length + 2 := by omega
        subst hjj
        cases hj
        refine ⟨u2, ?_⟩
        show H1[pz_up3 ad w.length H.size (w.length + 2)]? = _
        rw [u2, z3]
        exact congrArg some (pz_in_eq (cy 1) _)
  have h := kk (pz_up3 ad w.length H.size) H1 (pz_up3_old hlen) (fun j q hj => ?_) ⟨fun i j x y hi hj hxy => ?_, fun j q hj => ?_⟩ ⟨by rw [z0]; exact Nat.le_trans hS.1 (Nat.le_add_right _ _), fun q h1 h2 => ?_, hS.2.2⟩ ls ?_
  · have hst : st.map (pz_v (pz_up3 ad w.length H.size)) = st.map (pz_v ad) := List.map_congr_left fun z hz => pz_up3_v hlen (hso z hz)
    have hv : pz_v (pz_up3 ad w.length H.size) (.ref w.length) = .ref H.size := congrArg Value.ref u0
    rw [List.map_cons, hv, hst, ← Nat.add_assoc] at h
    exact h
  · rcases key j q hj with ⟨h1, h2⟩ | ⟨t, h1, h2, h3, h4⟩
    · exact (hP j q h2).kept (z4 _ (hP j q h2).lt)
    · exact h4
  · rcases key i x hi with ⟨h1, h2⟩ | ⟨t, h1, h2, h3, h4⟩ <;> rcases key j y hj with ⟨g1, g2⟩ | ⟨t', g1, g2, g3, g4⟩
    · exact hD.1 i j x y h2 g2 hxy
    · have := (hP i x h2).lt
      omega
    · have := (hP j y g2).lt
      omega
    · omega
  · rcases key j q hj with ⟨h1, h2⟩ | ⟨t, h1, h2, h3, h4⟩
    · exact hD.2 j q h2
    · rw [h3]
      exact hA _ (Nat.le_trans hS.1 (Nat.le_add_right _ _))
  · rw [z4 q (Nat.lt_of_lt_of_le h1 hS.1)]
    exact hS.2.1 q h1 h2
  · have hll : pz_l (pz_up3 ad w.length H.size) lv = pz_l ad lv := by
      unfold pz_l
      exact List.map_congr_left fun z hz => by rw [pz_up3_v hlen (hlo z hz)]
    rw [hll]
    exact hl
end PMA2
