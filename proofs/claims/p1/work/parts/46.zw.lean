/-! ===== runs of the pure machine, by rules ===== -/
theorem zk_more {OT : Nat → Option pz_C} {ST : Nat → Nat → Option Value} : ∀ (n d j pc : Nat) (lv : List (Nat × Value)) (st : List Value) (w : List pz_C) (nc ns : Nat) (r : pz_O), zk_run OT ST n d j pc lv st w nc ns = some r → ∀ n2 d2, n ≤ n2 → d ≤ d2 → zk_run OT ST n2 d2 j pc lv st w nc ns = some r := by
  intro n
  induction n with
  | zero => intro d j pc lv st w nc ns r h; cases h
  | succ n ih =>
    intro d j pc lv st w nc ns r h n2 d2 hn hd2
    obtain ⟨m, rfl⟩ : ∃ m, n2 = m + 1 := ⟨n2 - 1, by omega⟩
    have hnm : n ≤ m := by omega
    unfold zk_run pz_run at h ⊢
    split at h
    · cases h
    · rename_i hm
      try rw [hm]
      try dsimp only
      split at h
      · cases h
      · rename_i ins len hd
        try rw [hd]
        try dsimp only
        split at h
        · rename_i hA
          try rw [hA]
          try dsimp only
          split at h
          · rename_i hl
            try rw [if_pos hl]
            exact ih _ _ _ _ _ _ _ _ _ h _ _ hnm hd2
          · cases h
        · rename_i hA
          try rw [hA]
          try dsimp only
          split at h
          · rename_i hB
            try rw [hB]
            exact ih _ _ _ _ _ _ _ _ _ h _ _ hnm hd2
          · rename_i hB
            try rw [hB]
            try dsimp only
            split at h
            · rename_i hJ
              try rw [hJ]
              exact ih _ _ _ _ _ _ _ _ _ h _ _ hnm hd2
            · rename_i hJ
              try rw [hJ]
              try dsimp only
              split at h
              · rename_i hSs
                try rw [hSs]
                exact ih _ _ _ _ _ _ _ _ _ h _ _ hnm hd2
              · rename_i hSs
                try rw [hSs]
                try dsimp only
                split at h
                · rename_i hR
                  try rw [hR]
                  exact h
                · rename_i hR
                  try rw [hR]
                  try dsimp only
                  split at h
                  · rename_i hT
                    try rw [hT]
                    exact h
                  · rename_i hT
                    try rw [hT]
                    try dsimp only
                    split at h
                    · rename_i hk k as st1 d1 hK
                      obtain ⟨e, rfl⟩ : ∃ e, d2 = e + 1 := ⟨d2 - 1, by omega⟩
                      try rw [hK]
                      try dsimp only
                      split at h
                      · cases h
                      · rename_i hz
                        have e2 := ih _ _ _ _ _ _ _ _ _ hz _ _ hnm (show d1 ≤ e by omega)
                        unfold zk_run at e2
                        rw [e2]
                        exact ih _ _ _ _ _ _ _ _ _ h _ _ hnm hd2
                      · rename_i hz
                        have e2 := ih _ _ _ _ _ _ _ _ _ hz _ _ hnm (show d1 ≤ e by omega)
                        unfold zk_run at e2
                        rw [e2]
                        exact h
                    · cases h
/-- the pure machine stands here, and comes to an end of which Q holds -/
def zW (sc : pt_Sc) (d j pc : Nat) (lv : List (Nat × Value)) (st : List Value) (w : List pz_C) (nc ns : Nat) (Q : pz_O → Prop) : Prop := ∃ (n : Nat) (r : pz_O), pt_run sc n d j pc lv st w nc ns = some r ∧ Q r
/-- an instruction's place: owner, locals, constructor or not, answer -/
def zC (j o : Nat) (cb : ByteArray) (nL : Nat) (ini : Bool) (ret : Option FieldType) (pc : Nat) (ins : Instr) (len : Nat) : Prop := (∃ ci np, pt_mt j = some (o, cb, nL, ini, ret, ci, np)) ∧ decode cb pc = .ok (ins, len)
section ZWR
variable {sc : pt_Sc} {d j pc o nL : Nat} {cb : ByteArray} {ini : Bool} {ret : Option FieldType} {ins : Instr} {len : Nat} {lv lv1 : List (Nat × Value)} {st st1 : List Value} {w w1 : List pz_C} {nc ns c1 s1 : Nat} {Q : pz_O → Prop}
theorem zA (h : zC j o cb nL ini ret pc ins len) (hA : pz_A ins nL lv st = some (len, lv1, st1)) (K : zW sc d j (pc + len) lv1 st1 w nc ns Q) : zW sc d j pc lv st w nc ns Q := by
  obtain ⟨n, r, h1, h2⟩ := K
  obtain ⟨⟨ci, np, hm⟩, hd⟩ := h
  refine ⟨n + 1, r, ?_, h2⟩
  unfold pt_run pz_run
  rw [hm]
  dsimp only
  rw [hd]
  dsimp only
  rw [hA]
  dsimp only
  rw [if_pos rfl]
  exact h1
theorem zB (h : zC j o cb nL ini ret pc ins 1) (hg : zk_g ins = 1) (hB : pz_B ins st = some st1) (K : zW sc d j (pc + 1) lv st1 w nc ns Q) : zW sc d j pc lv st w nc ns Q := by
  obtain ⟨n, r, h1, h2⟩ := K
  obtain ⟨⟨ci, np, hm⟩, hd⟩ := h
  refine ⟨n + 1, r, ?_, h2⟩
  unfold pt_run pz_run
  rw [hm]
  dsimp only
  rw [hd]
  dsimp only
  rw [zk_gA (by rw [hg]; decide)]
  dsimp only
  rw [if_pos rfl, hB]
  exact h1
theorem zJ {pc1 : Nat} (h : zC j o cb nL ini ret pc ins len) (hg : zk_g ins = 2) (hJ : pz_J ins len pc st = some (pc1, st1)) (K : zW sc d j pc1 lv st1 w nc ns Q) : zW sc d j pc lv st w nc ns Q := by
  obtain ⟨n, r, h1, h2⟩ := K
  obtain ⟨⟨ci, np, hm⟩, hd⟩ := h
  refine ⟨n + 1, r, ?_, h2⟩
  unfold pt_run pz_run
  rw [hm]
  dsimp only
  rw [hd]
  dsimp only
  rw [zk_gA (by rw [hg]; decide), zk_gB (by rw [hg]; decide), ite_self]
  dsimp only
  rw [hJ]
  exact h1
theorem zS (h : zC j o cb nL ini ret pc ins len) (hg : zk_g ins = 3 ∨ zk_g ins = 4) (hS : zk_s (pt_OT sc) (pt_STf sc.2.2) ins len o ini w st = some (st1, w1, c1, s1)) (K : zW sc d j (pc + len) lv st1 w1 (nc + c1) (ns + s1) Q) : zW sc d j pc lv st w nc ns Q := by
  obtain ⟨n, r, h1, h2⟩ := K
  obtain ⟨⟨ci, np, hm⟩, hd⟩ := h
  refine ⟨n + 1, r, ?_, h2⟩
  unfold pt_run pz_run
  rw [hm]
  dsimp only
  rw [hd]
  dsimp only
  rw [zk_gA (by omega), zk_gB (by omega), ite_self, zk_gJ (by omega)]
  dsimp only
  unfold zk_s at hS
  rw [hS]
  exact h1
theorem zR {v : Option Value} (h : zC j o cb nL ini ret pc ins len) (hg : zk_g ins = 5) (hR : pz_ret ins len ret st = some v) (hQ : Q (.inl v, w, nc, ns)) : zW sc d j pc lv st w nc ns Q := by
  obtain ⟨⟨ci, np, hm⟩, hd⟩ := h
  refine ⟨1, (.inl v, w, nc, ns), ?_, hQ⟩
  unfold pt_run pz_run
  rw [hm]
  dsimp only
  rw [hd]
  dsimp only
  rw [zk_gA (by rw [hg]; decide), zk_gB (by rw [hg]; decide), ite_self, zk_gJ (by rw [hg]; decide)]
  dsimp only
  have hS := zk_gS (OT := pt_OT sc) (ST := pt_STf sc.2.2) (len := len) (o := o) (ini := ini) (w := w) (st := st) hg
  unfold zk_s at hS
  rw [hS]
  dsimp only
  rw [hR]
/-- a throw out of a method without a table -/
theorem zT {idx y : Nat} (h : zC j o cb nL ini ret pc (.new idx) 3) (hK : pt_two pt_KL o idx = none) (hH : pt_HH j = []) (hT : pz_th (pt_two pt_XL) cb (.new idx) 3 o pc st = some y) (hQ : Q (.inr y, w, nc + 1, ns + 6)) : zW sc d j pc lv st w nc ns Q := by
  obtain ⟨⟨ci, np, hm⟩, hd⟩ := h
  refine ⟨1, (.inr y, w, nc + 1, ns + 6), ?_, hQ⟩
  unfold pt_run pz_run
  rw [hm]
  dsimp only
  rw [hd]
  dsimp only
  rw [zk_gA (ins := .new idx) (by show (4 : Nat) ≠ 0; decide), zk_gB (ins := .new idx) (by show (4 : Nat) ≠ 1; decide), ite_self, zk_gJ (ins := .new idx) (by show (4 : Nat) ≠ 2; decide)]
  dsimp only
  have hS : pz_S pt_cl pt_tk (pt_two pt_FL) (pt_two pt_KL) (pt_two pt_KAL) (pt_two pt_GL) (pt_two pt_ML) pt_fz (pt_OT sc) (pt_STf sc.2.2) (pt_two pt_LSL) (.new idx) 3 o ini w st = none := by
    unfold pz_S
    dsimp only
    rw [if_pos rfl, hK]
  rw [hS]
  dsimp only
  rw [zk_gR (ins := .new idx) (by show (4 : Nat) ≠ 5; decide)]
  dsimp only
  rw [hH]
  dsimp only [List.isEmpty]
  rw [if_pos rfl, hT]
/-- what a call's end means behind it -/
def zE (sc : pt_Sc) (d j pc o : Nat) (cb : ByteArray) (nL : Nat) (ret : Option FieldType) (lv : List (Nat × Value)) (hk : Nat) (st1 : List Value) (nc ns : Nat) (Q : pz_O → Prop) : pz_O → Prop
  | (.inl v, w1, c1, s1) => zW sc (d + 1) j (pc + 3) lv (v.toList ++ st1) w1 (nc + c1) (ns + s1) Q
  | (.inr y, w1, c1, s1) => (hk = 0 ∨ hk = 4) ∧ ((pt_HH j = [] ∧ Q (.inr y, w1, nc + c1, ns + s1)) ∨ (pt_HH j ≠ [] ∧ ∃ h v, pz_hr (fun t => pt_CX o t y) pc (pt_HH j) = some h ∧ pz_hp cb nL ret h = some v ∧ Q (.inl (some (.int v)), w1, nc + c1, ns + s1)))
theorem zK {hk k : Nat} {as : List Value} (h : zC j o cb nL ini ret pc ins len) (hS : zk_s (pt_OT sc) (pt_STf sc.2.2) ins len o ini w st = none) (hK : pz_K (pt_two pt_ML) pt_mt (pt_OT sc) ins len o w st = some (hk, k, as, st1)) (K : zW sc d k 0 (lv_args 0 as) [] w 0 0 (zE sc d j pc o cb nL ret lv hk st1 nc ns Q)) : zW sc (d + 1) j pc lv st w nc ns Q := by
  obtain ⟨n1, r1, h1, h2⟩ := K
  obtain ⟨⟨ci, np, hm⟩, hd⟩ := h
  have hcall : zk_g ins = 4 ∧ ∀ idx, ins ≠ .new idx := by
    obtain ⟨_, _, _, _, _, _, _, _, _, _, _, _, hh⟩ := pz_K_spec hK
    rcases hh with ⟨idx, b, As, fs, rfl, -, -⟩ | ⟨idx, b, As, fs, rfl, -, -⟩ | ⟨idx, rfl, h4, hM, -⟩ <;> exact ⟨rfl, fun _ z => by cases z⟩
  have hg := hcall.1
  have hth : (if (pt_HH j).isEmpty then pz_th (pt_two pt_XL) cb ins len o pc st else none) = none := by
    split
    · unfold pz_th
      split
      · exact absurd rfl (hcall.2 _)
      · rfl
    · rfl
  have hgo : ∀ n, pt_run sc (n + 1) (d + 1) j pc lv st w nc ns = (match pt_run sc n d k 0 (lv_args 0 as) [] w 0 0 with
      | none => none
      | some (.inl r, w1, c1, s1) => pt_run sc n (d + 1) j (pc + 3) lv (r.toList ++ st1) w1 (nc + c1) (ns + s1)
      | some (.inr x, w1, c1, s1) => if hk = 0 ∨ hk = 4 then (if (pt_HH j).isEmpty then some (.inr x, w1, nc + c1, ns + s1) else (match pz_hr (fun t => pt_CX o t x) pc (pt_HH j) with
        | some h => (match pz_hp cb nL ret h with
          | some v => some (.inl (some (.int v)), w1, nc + c1, ns + s1)
          | none => none)
        | none => none)) else none) := by
    intro n
    conv => lhs; unfold pt_run pz_run
    rw [hm]
    dsimp only
    rw [hd]
    dsimp only
    rw [zk_gA (by rw [hg]; decide), zk_gB (by rw [hg]; decide), ite_self, zk_gJ (by rw [hg]; decide)]
    dsimp only
    unfold zk_s at hS
    rw [hS]
    dsimp only
    rw [zk_gR (by rw [hg]; decide)]
    dsimp only
    rw [hth]
    dsimp only
    rw [hK]
    all_goals rfl
  obtain ⟨o1, w1, c1, s1⟩ := r1
  cases o1 with
  | inl v =>
    obtain ⟨n2, r, h3, h4⟩ := h2
    refine ⟨max n1 n2 + 1, r, ?_, h4⟩
    have e2 := zk_more _ _ _ _ _ _ _ _ _ _ h1 (max n1 n2) d (Nat.le_max_left _ _) (Nat.le_refl _)
    unfold zk_run at e2
    rw [hgo]
    unfold pt_run
    rw [e2]
    exact zk_more _ _ _ _ _ _ _ _ _ _ h3 (max n1 n2) (d + 1) (Nat.le_max_right _ _) (Nat.le_refl _)
  | inr y =>
    obtain ⟨h3, h4⟩ := h2
    rcases h4 with ⟨h5, h6⟩ | ⟨h5, h', v, h6, h7, h8⟩
    · refine ⟨n1 + 1, _, ?_, h6⟩
      rw [hgo, h1]
      dsimp only
      rw [if_pos h3, h5]
      rfl
    · refine ⟨n1 + 1, _, ?_, h8⟩
      rw [hgo, h1]
      dsimp only
      rw [if_pos h3, if_neg (by rw [List.isEmpty_iff]; exact h5), h6]
      dsimp only
      rw [h7]
theorem zW_mono {Q2 : pz_O → Prop} (h : zW sc d j pc lv st w nc ns Q) (hq : ∀ r, Q r → Q2 r) : zW sc d j pc lv st w nc ns Q2 := by
  obtain ⟨n, r, h1, h2⟩ := h
  exact ⟨n, r, h1, hq r h2⟩
end ZWR
/-- a counted run -/
theorem zW_zk {sc : pt_Sc} {OT : Nat → Option pz_C} {ST : Nat → Nat → Option Value} {n d d2 j o nL ci np : Nat} {tb : zk_T} {cb : ByteArray} {ini : Bool} {ret : Option FieldType} {lv : List (Nat × Value)} {w : List pz_C} {r : pz_O} {Q : pz_O → Prop} (hO : ∀ i c, OT i = some c → pt_OT sc i = some c) (hS : ∀ o i v, ST o i = some v → pt_STf sc.2.2 o i = some v) (hm : pt_mt j = some (o, cb, nL, ini, ret, ci, np)) (hp : zP j = some tb) (hd : d ≤ d2) (hz : zk zP OT ST n d tb tb j o cb nL ini ret lv [] w 0 0 = some r) (hQ : Q r) : zW sc d2 j 0 lv [] w 0 0 Q := by
  have hV := zP_ok _ _ hp
  obtain ⟨pc, ins, len, t, e1, e2⟩ := zk_ok zP_ok n d tb tb j o cb nL ini ret ci np lv [] w 0 0 r hm hV (List.suffix_refl _) hz
  have h0 : pc = 0 := by
    have := (hV _ _ _ _ _ _ _ hm).2.2
    rw [e1] at this
    exact Option.some.inj this
  subst h0
  exact ⟨n, r, zk_mono hO hS _ _ _ _ _ _ _ _ _ _ (zk_more _ _ _ _ _ _ _ _ _ _ e2 n d2 (Nat.le_refl _) hd), hQ⟩
