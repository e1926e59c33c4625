/-! ===== places of design texts ===== -/
section DP
/-- a place at which a text is refused lies within it -/
def dp_s (n : Nat) (s : wt_q) : Prop := ∀ z, s.2 = some z → z ≤ n
theorem dp_at {n p : Nat} {s : wt_q} (hp : p ≤ n) (h : dp_s n s) : dp_s n (tk_refAt p s) := by
  unfold tk_refAt
  obtain ⟨a, o⟩ := s
  cases o with
  | none => exact fun z e => by cases e; exact hp
  | some w => exact h
variable {ts : List wt_t} {n A B : Nat} {nm : ds_n}
theorem dp_ref {s : wt_q} (hp : ∀ a, tk_place ts n a ≤ n) (h : dp_s n s) : dp_s n (tk_ref ts n s) := dp_at (hp _) h
theorem dp_adv {s : wt_q} (h : dp_s n s) : dp_s n (tk_adv ts s) := by
  unfold tk_adv
  split
  · exact fun z e => by cases e
  · exact h
theorem dp_take {s : wt_q} {k : Int32} (hp : ∀ a, tk_place ts n a ≤ n) (h : dp_s n s) : dp_s n (tk_take ts n k s) := by
  unfold tk_take
  split
  · exact dp_adv h
  · exact dp_ref hp h
theorem dp_nn {s : wt_q} (hp : ∀ a, tk_place ts n a ≤ n) (h : dp_s n s) : dp_s n (ds_nn ts n nm s).2 := by
  unfold ds_nn
  refine dp_take hp ?_
  split
  · exact h
  · exact dp_ref hp h
theorem dp_not : ∀ f (x : Int32 × wt_q), dp_s n x.2 → dp_s n (ds_not ts f x).2
  | 0, x, h => h
  | f + 1, x, h => by
    unfold ds_not
    split
    · exact dp_not f _ (dp_adv h)
    · exact h
def dp_f (n : Nat) (f : ds_q → Int32 × ds_q) : Prop := ∀ x, dp_s n x.1 → dp_s n (f x).2.1
theorem dp_rm {k p : Nat} {x : ds_q} (hp : p ≤ n) (h : dp_s n x.1) : dp_s n (ds_rm k p x).2.1 := by
  unfold ds_rm
  split
  · exact h
  · split
    · exact fun z e => by cases e; exact hp
    · exact h
theorem dp_and {p : Nat} {u v : Int32} {x : ds_q} (hp : p ≤ n) (h : dp_s n x.1) : dp_s n (ds_and A B p u v x).2.1 := by
  unfold ds_and
  split
  · exact h
  · exact dp_rm hp h
theorem dp_XO {k : Int32} {p : Nat} {u v : Int32} {x : ds_q} (hp : p ≤ n) (h : dp_s n x.1) : dp_s n (ds_XO A B k p u v x).2.1 := by
  unfold ds_XO ds_or ds_xor
  split
  · split
    · exact h
    · exact dp_rm hp h
  · split
    · exact h
    · exact dp_rm hp h
theorem dp_Fc {inner : Option (ds_q → Int32 × ds_q)} (hp : ∀ a, tk_place ts n a ≤ n) (hi : ∀ f, inner = some f → dp_f n f) : dp_f n (ds_Fc ts n nm inner) := by
  intro x hx
  unfold ds_Fc
  have h := dp_not (ts := ts) (n := n) 400 (Int32.ofInt 0, x.1) hx
  generalize ds_not ts 400 (Int32.ofInt 0, x.1) = o at h ⊢
  unfold ds_Fb
  generalize hw : (if tk_now ts o.2 = (Int8.ofInt 15).toInt32 then inner else none) = w
  cases w with
  | some g =>
    have hg : inner = some g := by
      split at hw
      · exact hw
      · cases hw
    exact dp_take hp (hi g hg (tk_adv ts o.2, x.2) (dp_adv h))
  | none =>
    cases ds_nl ts nm o.2 with
    | some y => exact dp_adv h
    | none =>
      show dp_s n (if tk_now ts o.2 = Int32.ofInt 5 then (Int32.ofInt 1 ^^^ o.1, (tk_adv ts o.2, x.2)) else (Int32.ofInt 0 ^^^ o.1, (tk_take ts n (Int32.ofInt 4) o.2, x.2))).2.1
      split
      · exact dp_adv h
      · exact dp_take hp h
theorem dp_PL {fac : ds_q → Int32 × ds_q} (hp : ∀ a, tk_place ts n a ≤ n) (hf : dp_f n fac) : ∀ f l x, dp_s n x.1 → dp_s n (ds_PL ts n A B fac f l x).2.1
  | 0, l, x, h => h
  | f + 1, l, x, h => by
    unfold ds_PL
    split
    · exact dp_PL hp hf f _ _ (dp_and (hp _) (hf (tk_adv ts x.1, x.2) (dp_adv h)))
    · exact h
theorem dp_XL {prt : ds_q → Int32 × ds_q} (hp : ∀ a, tk_place ts n a ≤ n) (hf : dp_f n prt) : ∀ f l x, dp_s n x.1 → dp_s n (ds_XL ts n A B prt f l x).2.1
  | 0, l, x, h => h
  | f + 1, l, x, h => by
    unfold ds_XL
    split
    · exact dp_XL hp hf f _ _ (dp_XO (hp _) (hf (tk_adv ts x.1, x.2) (dp_adv h)))
    · exact h
theorem dp_Ex {fac : ds_q → Int32 × ds_q} (hp : ∀ a, tk_place ts n a ≤ n) (hf : dp_f n fac) : dp_f n (ds_Ex ts n A B (ds_Pt ts n A B fac)) := by
  have h2 : dp_f n (ds_Pt ts n A B fac) := fun x h => dp_PL hp hf 400 _ _ (hf x h)
  exact fun x h => dp_XL hp h2 400 _ _ (h2 x h)
theorem dp_E (hp : ∀ a, tk_place ts n a ≤ n) : ∀ v, dp_f n (ds_E ts n nm A B v)
  | 0 => dp_Ex hp (dp_Fc hp (fun f hf => by cases hf))
  | v + 1 => dp_Ex hp (dp_Fc hp (fun f hf => by cases hf; exact dp_E hp v))
theorem dp_RI (hp : ∀ a, tk_place ts n a ≤ n) : ∀ f k s nm, dp_s n s → dp_s n (ds_RI ts n f k s nm).2.1
  | 0, k, s, nm, h => h
  | f + 1, k, s, nm, h => by
    have g : dp_s n (tk_take ts n (Int8.ofInt 9).toInt32 (ds_nn ts n nm (tk_take ts n (Int8.ofInt 33).toInt32 s)).2) := dp_take hp (dp_nn hp (dp_take hp h))
    unfold ds_RI
    split
    · exact dp_RI hp f _ _ _ g
    · exact g
theorem dp_RL (hp : ∀ a, tk_place ts n a ≤ n) : ∀ f k s nm fs, dp_s n s → dp_s n (ds_RL ts n f k s nm fs).2.1
  | 0, k, s, nm, fs, h => h
  | f + 1, k, s, nm, fs, h => by
    unfold ds_RL
    split
    · exact dp_RL hp f _ _ _ _ (dp_take hp (dp_take hp (dp_nn hp (dp_adv h))))
    · exact h
theorem dp_fin {k : Int32} {c : Int64} {a : Option Nat} {e : Int32} {x : ds_q} {nm : ds_n} {nx sg : Nat → Int32} (h : dp_s n x.1) : dp_s n (ds_fin A k c a e x nm nx sg).1.1 := by
  unfold ds_fin
  split
  · exact h
  · split
    · exact h
    · split
      · exact h
      · exact h
theorem dp_E20 (hp : ∀ a, tk_place ts n a ≤ n) : dp_f n (ds_E20 ts n nm A B) := dp_E hp 20
theorem dp_s3 {nm : ds_n} {s : wt_q} (hp : ∀ a, tk_place ts n a ≤ n) (h : dp_s n s) : dp_s n (ds_s3 ts n (ds_s2 ts n A B nm s)) := by
  unfold ds_s3 ds_s2
  refine dp_take hp (dp_take hp ?_)
  split
  · exact dp_adv h
  · exact dp_ref hp (dp_adv h)
theorem dp_stm {z : ds_Z} (hp : ∀ a, tk_place ts n a ≤ n) (h : dp_s n z.1.1) : dp_s n (ds_stm ts n A B z).1.1 := by
  unfold ds_stm
  have g : dp_s n (ds_E20 ts n z.2.1 A B (ds_s3 ts n (ds_s2 ts n A B z.2.1 z.1.1), z.1.2)).2.1 := dp_E20 hp (ds_s3 ts n (ds_s2 ts n A B z.2.1 z.1.1), z.1.2) (dp_s3 hp h)
  generalize ds_E20 ts n z.2.1 A B (ds_s3 ts n (ds_s2 ts n A B z.2.1 z.1.1), z.1.2) = y at g ⊢
  exact dp_fin (dp_take hp g)
theorem dp_SL (hp : ∀ a, tk_place ts n a ≤ n) : ∀ f z, dp_s n z.1.1 → dp_s n (ds_SL ts n A B f z).1.1
  | 0, z, h => h
  | f + 1, z, h => by
    unfold ds_SL
    split
    · exact h
    · split
      · exact dp_SL hp f _ (dp_stm hp h)
      · exact dp_SL hp f _ (dp_ref hp h)
theorem dp_Z (hp : ∀ a, tk_place ts n a ≤ n) : dp_s n (dsZ ts n).1.1 := by
  have h1 : dp_s n (dsI ts n).2.1 := by
    unfold dsI
    exact dp_RI hp 3 0 _ _ (fun z e => by cases e)
  have h2 : dp_s n (dsL ts n).2.1 := by
    unfold dsL
    exact dp_RL hp 5 0 _ _ _ h1
  have h3 : dp_s n (dsZ0 ts n).1.1 := by
    unfold dsZ0
    exact h2
  unfold dsZ
  exact dp_SL hp 400 _ h3
end DP
theorem dp_all {t : Nat → Int32} {n : Nat} (ht : wt_tx t n) : ∀ z, (dsZ (wt_lex (ds_st t n) n 400 0) n).1.1.2 = some z → z ≤ n := by
  refine dp_Z (fun a => ?_)
  unfold tk_place
  split
  · rename_i x hx
    exact (dw_lex ht 400 0 (Nat.zero_le _) a x hx).2
  · exact Nat.le_refl _
