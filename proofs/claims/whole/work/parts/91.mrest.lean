/-! ===== the reference: the rest of the numbers ===== -/
theorem tk_take_some {ts : List wt_t} {n : Nat} {k : Int32} {s : wt_q} {z : Nat} (h : s.2 = some z) (hk : ¬ k = Int32.ofInt 2) : tk_take ts n k s = s := by
  have hn : tk_now ts s = Int32.ofInt 2 := by unfold tk_now; rw [h]
  unfold tk_take
  rw [hn, if_neg (fun e => hk e.symm)]
  unfold tk_ref tk_refAt
  rw [h]
theorem tk_ref_some {ts : List wt_t} {n : Nat} {s : wt_q} {z : Nat} (h : s.2 = some z) : tk_ref ts n s = s := by
  unfold tk_ref tk_refAt
  rw [h]
theorem nm_rd_some {ts : List wt_t} {n : Nat} {lo hi : Int32} {s : wt_q} {z : Nat} (h : s.2 = some z) : (nm_rd ts n lo hi s).2.2 = some z := by
  unfold nm_rd
  show (tk_take ts n (Int8.ofInt 40).toInt32 (if tk_low ts s.1 < lo ∨ hi < tk_low ts s.1 then tk_ref ts n s else s)).2 = some z
  rw [tk_ref_some h]
  rw [show (if tk_low ts s.1 < lo ∨ hi < tk_low ts s.1 then s else s) = s by split <;> rfl]
  rw [tk_take_some h (by decide)]
  exact h
section NMF
variable {ts : List wt_t} {n A B G : Nat} {s0 : wt_q} {z : Nat}
theorem nm_sI_f {k : Nat} (h : (nm_sI ts n s0 k).2 = some z) : ∀ j, (nm_sI ts n s0 (k + j)).2 = some z
  | 0 => h
  | j + 1 => nm_rd_some (nm_sI_f h j)
theorem nm_sL_f {a gr : Int32} {k : Nat} (h : (nm_sL ts n a gr s0 k).2 = some z) : ∀ j, (nm_sL ts n a gr s0 (k + j)).2 = some z
  | 0 => h
  | j + 1 => nm_rd_some (nm_rd_some (nm_rd_some (nm_sL_f h j)))
theorem nm_sS_f {gr : Int32} {k : Nat} (h : (nm_sS ts n gr s0 k).2 = some z) : ∀ j, (nm_sS ts n gr s0 (k + j)).2 = some z
  | 0 => h
  | j + 1 => nm_rd_some (nm_sS_f h j)
theorem nm_sG_f {a b : Int32} {k : Nat} (h : (nm_sG ts n a b s0 k).2 = some z) : ∀ j, (nm_sG ts n a b s0 (k + j)).2 = some z
  | 0 => h
  | j + 1 => nm_rd_some (nm_rd_some (nm_rd_some (nm_sG_f h j)))
theorem nmE_D {k : Nat} (hk : k ≤ G) (h : (nmDk ts n A B G s0 k).2 = some z) : (nmE ts n A B G s0).2 = some z := by
  have h1 : (nmDk ts n A B G s0 G).2 = some z := by
    have h1 := nm_sG_f h (G - k)
    rw [show k + (G - k) = G by omega] at h1
    exact h1
  unfold nmE
  rw [tk_take_some h1 (by decide)]
  exact h1
theorem nmE_C {k : Nat} (hk : k ≤ 6) (h : (nmCk ts n A B G s0 k).2 = some z) : (nmE ts n A B G s0).2 = some z := by
  have h1 := nm_sS_f h (6 - k)
  rw [show k + (6 - k) = 6 by omega] at h1
  exact nmE_D (k := 0) (Nat.zero_le _) h1
theorem nmE_B {k : Nat} (hk : k ≤ B) (h : (nmBk ts n A B G s0 k).2 = some z) : (nmE ts n A B G s0).2 = some z := by
  have h1 := nm_sL_f h (B - k)
  rw [show k + (B - k) = B by omega] at h1
  exact nmE_C (k := 0) (Nat.zero_le _) h1
theorem nmE_A {k : Nat} (hk : k ≤ A) (h : (nm_sI ts n s0 k).2 = some z) : (nmE ts n A B G s0).2 = some z := by
  have h1 := nm_sI_f h (A - k)
  rw [show k + (A - k) = A by omega] at h1
  exact nmE_B (k := 0) (Nat.zero_le _) h1
end NMF
/-- what the reference's reading leaves alone -/
def wp_G (I I1 : Nat → Nat → Int32) : Prop := ∀ c j, ¬ (c = 460 ∧ (j = 4 ∨ j = 5 ∨ j = 8)) → ¬ (530 ≤ c ∧ c ≤ 534) → I1 c j = I c j
theorem wp_G_id (I : Nat → Nat → Int32) : wp_G I I := fun _ _ _ _ => rfl
theorem wp_G_tr {I J K : Nat → Nat → Int32} (h : wp_G I J) (h2 : wp_G J K) : wp_G I K := fun c j a b => by rw [h2 c j a b, h c j a b]
theorem wp_G_F {I J : Nat → Nat → Int32} (h : wp_F I J) : wp_G I J := fun c j a _ => h c j a
theorem wp_G_u {I : Nat → Nat → Int32} {c k : Nat} {x : Int32} (h : 530 ≤ c ∧ c ≤ 534) : wp_G I (wv_u I c k x) := fun c2 j _ b => wv_u_no _ _ (fun z => b (by omega))
theorem wp_G_m {I J : Nat → Nat → Int32} (h : wp_G I J) : wt_m J = wt_m I := by
  funext k
  unfold wt_m
  rw [h 460 2 (by omega) (by omega), h 461 k (by omega) (by omega)]
theorem wp_Y_G {T : wv_T} {I J : Nat → Nat → Int32} {t : Nat → Int32} {n : Nat} (h : wp_Y T I t n) (hF : wp_G I J) : wp_Y T J t n := by
  refine ⟨?_, by rw [wp_G_m hF]; exact h.2.1, h.2.2⟩
  have := h.1
  unfold wt_mok at this ⊢
  rw [hF 460 2 (by omega) (by omega)]
  exact this
/-- where the reference stands does not hang on the new design -/
theorem wp_Z_u {st : Nat → Option wt_t × Nat} {ts : List wt_t} {n : Nat} {s : wt_q} {I J : Nat → Nat → Int32} (h : wp_Z st ts n s I) (h5 : J 460 5 = I 460 5) (h8 : J 460 8 = I 460 8) : wp_Z st ts n s J := by
  unfold wp_Z at h ⊢
  rw [h5, h8]
  exact h
/-- the new design, as far as it is read -/
def wm_V (ts : List wt_t) (n A B G : Nat) (s0 : wt_q) (I : Nat → Nat → Int32) (ko kt kb kf ks : Nat) : Prop := (∀ j, j < kb → I 532 j = nm_nx ts n (Int32.ofNat A) (nmGr A B G) (nmA ts n A s0) j) ∧ (∀ j, j < kf → I 533 j = nm_fi ts n (Int32.ofNat A) (nmGr A B G) (nmA ts n A s0) j) ∧ (∀ j, j < ks → I 534 j = nm_sg ts n (nmGr A B G) (nmBk ts n A B G s0 B) j) ∧ (∀ j, j < ko → I 530 j = nm_on ts n (Int32.ofNat A) (Int32.ofNat B) (nmCk ts n A B G s0 6) j) ∧ ∀ j, j < kt → I 531 j = nm_tw ts n (Int32.ofNat A) (Int32.ofNat B) (nmCk ts n A B G s0 6) j
section WMV
variable {ts : List wt_t} {n A B G : Nat} {s0 : wt_q} {I J : Nat → Nat → Int32} {ko kt kb kf ks k : Nat} {x : Int32}
theorem wm_V_F (h : wm_V ts n A B G s0 I ko kt kb kf ks) (hF : wp_F I J) : wm_V ts n A B G s0 J ko kt kb kf ks := by
  obtain ⟨h1, h2, h3, h4, h5⟩ := h
  refine ⟨fun j hj => ?_, fun j hj => ?_, fun j hj => ?_, fun j hj => ?_, fun j hj => ?_⟩
  · rw [hF _ _ (by omega)]; exact h1 j hj
  · rw [hF _ _ (by omega)]; exact h2 j hj
  · rw [hF _ _ (by omega)]; exact h3 j hj
  · rw [hF _ _ (by omega)]; exact h4 j hj
  · rw [hF _ _ (by omega)]; exact h5 j hj
theorem wm_V_nx (h : wm_V ts n A B G s0 I ko kt k kf ks) (hx : x = nm_nx ts n (Int32.ofNat A) (nmGr A B G) (nmA ts n A s0) k) : wm_V ts n A B G s0 (wv_u I 532 k x) ko kt (k + 1) kf ks := by
  obtain ⟨h1, h2, h3, h4, h5⟩ := h
  refine ⟨fun j hj => ?_, fun j hj => ?_, fun j hj => ?_, fun j hj => ?_, fun j hj => ?_⟩
  · by_cases hjk : j = k
    · rw [hjk, wv_u_at]; exact hx
    · rw [wv_u_no _ _ (by omega)]; exact h1 j (by omega)
  · rw [wv_u_no _ _ (by omega)]; exact h2 j hj
  · rw [wv_u_no _ _ (by omega)]; exact h3 j hj
  · rw [wv_u_no _ _ (by omega)]; exact h4 j hj
  · rw [wv_u_no _ _ (by omega)]; exact h5 j hj
theorem wm_V_fi (h : wm_V ts n A B G s0 I ko kt kb k ks) (hx : x = nm_fi ts n (Int32.ofNat A) (nmGr A B G) (nmA ts n A s0) k) : wm_V ts n A B G s0 (wv_u I 533 k x) ko kt kb (k + 1) ks := by
  obtain ⟨h1, h2, h3, h4, h5⟩ := h
  refine ⟨fun j hj => ?_, fun j hj => ?_, fun j hj => ?_, fun j hj => ?_, fun j hj => ?_⟩
  · rw [wv_u_no _ _ (by omega)]; exact h1 j hj
  · by_cases hjk : j = k
    · rw [hjk, wv_u_at]; exact hx
    · rw [wv_u_no _ _ (by omega)]; exact h2 j (by omega)
  · rw [wv_u_no _ _ (by omega)]; exact h3 j hj
  · rw [wv_u_no _ _ (by omega)]; exact h4 j hj
  · rw [wv_u_no _ _ (by omega)]; exact h5 j hj
theorem wm_V_sg (h : wm_V ts n A B G s0 I ko kt kb kf k) (hx : x = nm_sg ts n (nmGr A B G) (nmBk ts n A B G s0 B) k) : wm_V ts n A B G s0 (wv_u I 534 k x) ko kt kb kf (k + 1) := by
  obtain ⟨h1, h2, h3, h4, h5⟩ := h
  refine ⟨fun j hj => ?_, fun j hj => ?_, fun j hj => ?_, fun j hj => ?_, fun j hj => ?_⟩
  · rw [wv_u_no _ _ (by omega)]; exact h1 j hj
  · rw [wv_u_no _ _ (by omega)]; exact h2 j hj
  · by_cases hjk : j = k
    · rw [hjk, wv_u_at]; exact hx
    · rw [wv_u_no _ _ (by omega)]; exact h3 j (by omega)
  · rw [wv_u_no _ _ (by omega)]; exact h4 j hj
  · rw [wv_u_no _ _ (by omega)]; exact h5 j hj
theorem wm_V_on (h : wm_V ts n A B G s0 I k kt kb kf ks) (hx : x = nm_on ts n (Int32.ofNat A) (Int32.ofNat B) (nmCk ts n A B G s0 6) k) : wm_V ts n A B G s0 (wv_u I 530 k x) (k + 1) kt kb kf ks := by
  obtain ⟨h1, h2, h3, h4, h5⟩ := h
  refine ⟨fun j hj => ?_, fun j hj => ?_, fun j hj => ?_, fun j hj => ?_, fun j hj => ?_⟩
  · rw [wv_u_no _ _ (by omega)]; exact h1 j hj
  · rw [wv_u_no _ _ (by omega)]; exact h2 j hj
  · rw [wv_u_no _ _ (by omega)]; exact h3 j hj
  · by_cases hjk : j = k
    · rw [hjk, wv_u_at]; exact hx
    · rw [wv_u_no _ _ (by omega)]; exact h4 j (by omega)
  · rw [wv_u_no _ _ (by omega)]; exact h5 j hj
theorem wm_V_tw (h : wm_V ts n A B G s0 I ko k kb kf ks) (hx : x = nm_tw ts n (Int32.ofNat A) (Int32.ofNat B) (nmCk ts n A B G s0 6) k) : wm_V ts n A B G s0 (wv_u I 531 k x) ko (k + 1) kb kf ks := by
  obtain ⟨h1, h2, h3, h4, h5⟩ := h
  refine ⟨fun j hj => ?_, fun j hj => ?_, fun j hj => ?_, fun j hj => ?_, fun j hj => ?_⟩
  · rw [wv_u_no _ _ (by omega)]; exact h1 j hj
  · rw [wv_u_no _ _ (by omega)]; exact h2 j hj
  · rw [wv_u_no _ _ (by omega)]; exact h3 j hj
  · rw [wv_u_no _ _ (by omega)]; exact h4 j hj
  · by_cases hjk : j = k
    · rw [hjk, wv_u_at]; exact hx
    · rw [wv_u_no _ _ (by omega)]; exact h5 j (by omega)
end WMV
/-- the reference has told a fault, which the tokens tell too -/
def wp_X (ts : List wt_t) (n A B G : Nat) (s0 : wt_q) (I1 : Nat → Nat → Int32) : Prop := ∃ z, I1 460 8 = Int32.ofNat z ∧ z ≤ 400 ∧ (nmE ts n A B G s0).2 = some z ∧ ∃ e, I1 460 5 = Int32.ofNat e ∧ e ≤ 400
theorem wp_X_of {st : Nat → Option wt_t × Nat} {ts : List wt_t} {n A B G : Nat} {s0 s : wt_q} {I1 : Nat → Nat → Int32} {z : Nat} (h : wp_Z st ts n s I1) (hs : s.2 = some z) (hE : (nmE ts n A B G s0).2 = some z) : wp_X ts n A B G s0 I1 := by
  unfold wp_Z at h
  rw [hs] at h
  exact ⟨z, h.1, h.2.1, hE, h.2.2⟩
theorem wp_X_8 {ts : List wt_t} {n A B G : Nat} {s0 : wt_q} {I1 : Nat → Nat → Int32} (h : wp_X ts n A B G s0 I1) : 0 ≤ I1 460 8 := by
  obtain ⟨z, h8, hz, _⟩ := h
  rw [h8, wi_le, wi_0, wi_on (by omega)]
  omega
theorem wp_X_u {ts : List wt_t} {n A B G : Nat} {s0 : wt_q} {I J : Nat → Nat → Int32} (h : wp_X ts n A B G s0 I) (h5 : J 460 5 = I 460 5) (h8 : J 460 8 = I 460 8) : wp_X ts n A B G s0 J := by
  unfold wp_X at h ⊢
  rw [h5, h8]
  exact h
theorem wp_Z_8 {st : Nat → Option wt_t × Nat} {ts : List wt_t} {n : Nat} {s : wt_q} {I1 : Nat → Nat → Int32} (h : wp_Z st ts n s I1) (hs : s.2 = none) : ¬ 0 ≤ I1 460 8 := by
  unfold wp_Z at h
  rw [hs] at h
  obtain ⟨e, _, _, h8, _⟩ := h
  rw [h8]
  decide
theorem wp_Z_s {st : Nat → Option wt_t × Nat} {ts : List wt_t} {n : Nat} {s : wt_q} {I1 : Nat → Nat → Int32} (h : wp_Z st ts n s I1) (hs : s.2 = none) : wp_Z st ts n (s.1, none) I1 := by
  obtain ⟨a, f⟩ := s
  have hs : f = none := hs
  subst hs
  exact h
theorem wp_Zs {s : wt_q} (hs : s.2 = none) : (s.1, (none : Option Nat)) = s := by
  obtain ⟨a, f⟩ := s
  have hs : f = none := hs
  subst hs
  rfl
