/-! THE REFERENCE (cells 117 .. 141): its 24 rows of numbers F (0 text, 1 lengths, 2 is, 3 frames, 4 laws, 5 firsts, 6 seconds, 7 parents, 8 conditions, 9 proved, 10 variables, 11 guards, 12 guardLengths, 13 made, 14 wanted, 15 pile, 16 state, 17 refuting, 18 kinds, 19 targets, 20 nodes, 21 work, 22 workAt, 23 numbers) and its 8 numbers S (0 typed, 1 refinements, 2 newConditions, 3 newChildren, 4 size, 5 depth, 6 out, 7 top). -/
def rm_f (S : Nat → Int32) : List Value := [.ref 118, .ref 119, .int (S 0), .ref 120, .ref 121, .ref 122, .ref 123, .ref 124, .ref 125, .ref 126, .ref 127, .ref 128, .ref 129, .ref 130, .int (S 1), .ref 131, .int (S 2), .int (S 3), .ref 132, .ref 133, .ref 134, .ref 135, .int (S 4), .ref 136, .ref 137, .ref 138, .ref 139, .ref 140, .int (S 5), .ref 141, .int (S 6), .int (S 7)]
def rm_n (k : Nat) : Nat := [10600, 70, 17, 17, 17, 17, 17, 17, 17, 17, 17, 1020, 17, 6, 130, 130, 5, 5, 80, 80, 80, 80, 80, 4].getD k 0
def rm_y (k : Nat) : FieldType := if k = 2 then .boolean else if k = 9 then .boolean else .int
def rm (h : ia_H) (F : Nat → Nat → Int32) (S : Nat → Int32) : Prop := h.1 117 = some (.inr (8, rm_f S)) ∧ ∀ k, k < 24 → h.1 (k + 118) = some (.inl (rm_y k, rm_n k, fun j => .int (F k j)))
def rm_S (q : Nat) : Prop := 117 ≤ q ∧ q ≤ 141
def rm_X (h0 h : ia_H) (F : Nat → Nat → Int32) (S : Nat → Int32) : Prop := rm h F S ∧ sx_fr h0 h rm_S ∧ h.2 = h0.2
theorem rm.X {h : ia_H} {F : Nat → Nat → Int32} {S : Nat → Int32} (hm : rm h F S) : rm_X h h F S := ⟨hm, sx_fr.rf, rfl⟩
theorem rm_X.tr {h0 h1 h2 : ia_H} {F E : Nat → Nat → Int32} {S T : Nat → Int32} (a : rm_X h0 h1 F S) (b : rm_X h1 h2 E T) : rm_X h0 h2 E T := ⟨b.1, a.2.1.tr b.2.1, b.2.2.trans a.2.2⟩
/-- one number is written -/
def rm_u (F : Nat → Nat → Int32) (k i : Nat) (x : Int32) : Nat → Nat → Int32 := fun k' j => if k' = k then (if j = i then x else F k' j) else F k' j
def rm_s (S : Nat → Int32) (k : Nat) (x : Int32) : Nat → Int32 := fun k' => if k' = k then x else S k'
theorem rm_uu {F : Nat → Nat → Int32} {k i : Nat} {x : Int32} : rm_u F k i x k i = x := by simp [rm_u]
theorem rm_un {F : Nat → Nat → Int32} {k i j : Nat} {x : Int32} (h : j ≠ i) : rm_u F k i x k j = F k j := by simp [rm_u, h]
theorem rm_uk {F : Nat → Nat → Int32} {k k' i j : Nat} {x : Int32} (h : k' ≠ k) : rm_u F k i x k' j = F k' j := by simp [rm_u, h]
theorem rm_upd (F : Nat → Nat → Int32) (k i : Nat) (x : Int32) : updV (fun j => .int (F k j)) i (.int x) = fun j => .int (rm_u F k i x k j) := by
  funext j
  unfold updV rm_u
  rw [if_pos rfl]
  split <;> rfl
theorem rm_set {h0 h : ia_H} {F : Nat → Nat → Int32} {S : Nat → Int32} {k i : Nat} {x : Int32} (hm : rm_X h0 h F S) (hk : k < 24) : rm_X h0 (ia_up h.1 (k + 118) (.inl (rm_y k, rm_n k, updV (fun j => .int (F k j)) i (.int x))), h.2) (rm_u F k i x) S := by
  obtain ⟨⟨h1, h2⟩, h3, h4⟩ := hm
  refine ⟨⟨h1, fun k' hk' => ?_⟩, sx_up h3 ⟨by omega, by omega⟩, h4⟩
  by_cases he : k' = k
  · subst he
    rw [rm_upd]; exact ia_up_same
  · refine (ia_up_ne (by omega)).trans ?_
    rw [h2 k' hk', show (fun j => Value.int (rm_u F k i x k' j)) = fun j => .int (F k' j) from funext fun j => by rw [rm_uk he]]
section RM
variable {G : ia_G} {k d bc bs pc : Nat} {ls st : List Value} {h0 h : ia_H} {Post : Option Value → ia_H → Prop} {nx tg r2 i K : Nat} {cst : Value} {F : Nat → Nat → Int32} {S : Nat → Int32} {x : Int32}
theorem rm_ld (hr : ia_row pg k pc = some (.iaload, nx, tg, r2, cst)) (hm : rm_X h0 h F S) (hk : K < 24) (hy : rm_y K = .int) (hi : i < rm_n K) (hn : rm_n K < 2 ^ 31) (kk : ia_Sx pg G k d bc bs nx ls (.int (F K i) :: st) h Post) : ia_Sx pg G k d bc bs pc ls (.int (nI i) :: .ref (K + 118) :: st) h Post := by
  have h1 := hm.1.2 K hk
  rw [hy] at h1
  exact ia_iald hr h1 (vp_in_nI hi hn) (v := .int (F K i)) (by rw [nI_clamp (by omega)]) kk
theorem rm_zld (hr : ia_row pg k pc = some (.baload, nx, tg, r2, cst)) (hm : rm_X h0 h F S) (hk : K < 24) (hy : rm_y K = .boolean) (hi : i < rm_n K) (hn : rm_n K < 2 ^ 31) (kk : ia_Sx pg G k d bc bs nx ls (.int (F K i) :: st) h Post) : ia_Sx pg G k d bc bs pc ls (.int (nI i) :: .ref (K + 118) :: st) h Post := by
  have h1 := hm.1.2 K hk
  rw [hy] at h1
  exact ia_zald hr h1 (vp_in_nI hi hn) (v := .int (F K i)) (by rw [nI_clamp (by omega)]) kk
theorem rm_st (hr : ia_row pg k pc = some (.iastore, nx, tg, r2, cst)) (hm : rm_X h0 h F S) (hk : K < 24) (hy : rm_y K = .int) (hi : i < rm_n K) (hn : rm_n K < 2 ^ 31) (kk : ∀ h' : ia_H, rm_X h0 h' (rm_u F K i x) S → ia_Sx pg G k d bc bs nx ls st h' Post) : ia_Sx pg G k d bc bs pc ls (.int x :: .int (nI i) :: .ref (K + 118) :: st) h Post := by
  have h1 := hm.1.2 K hk
  have h2 := rm_set (i := i) (x := x) hm hk
  rw [hy] at h1 h2
  refine ia_iast hr h1 (by omega) (vp_in_nI hi hn) ?_
  rw [nI_clamp (by omega)]
  exact kk _ h2
theorem rm_zst (hr : ia_row pg k pc = some (.bastore, nx, tg, r2, cst)) (hm : rm_X h0 h F S) (hk : K < 24) (hy : rm_y K = .boolean) (hi : i < rm_n K) (hn : rm_n K < 2 ^ 31) (hx : x = 0 ∨ x = 1) (kk : ∀ h' : ia_H, rm_X h0 h' (rm_u F K i x) S → ia_Sx pg G k d bc bs nx ls st h' Post) : ia_Sx pg G k d bc bs pc ls (.int x :: .int (nI i) :: .ref (K + 118) :: st) h Post := by
  have h1 := hm.1.2 K hk
  have h2 := rm_set (i := i) (x := x) hm hk
  rw [hy] at h1 h2
  refine ia_zast hr h1 (by omega) (vp_in_nI hi hn) (y := .int x) (by rcases hx with rfl | rfl <;> rfl) rfl ?_
  rw [nI_clamp (by omega)]
  exact kk _ h2
/-- a field that is a number -/
theorem rm_put {idx fk sk : Nat} (hr : ia_row pg k pc = some (.putfield idx, nx, 8, fk, cst)) (hm : rm_X h0 h F S) (hs : (rm_f S).set fk (.int x) = rm_f (rm_s S sk x)) (hty : ((ia_Pt pg)[8]?).bind (fun t => t[fk]?) = some .int) (kk : ∀ h' : ia_H, rm_X h0 h' F (rm_s S sk x) → ia_Sx pg G k d bc bs nx ls st h' Post) : ia_Sx pg G k d bc bs pc ls (.int x :: .ref 117 :: st) h Post := by
  cases ht : (ia_Pt pg)[8]? with
  | none => rw [ht] at hty; cases hty
  | some ts =>
    rw [ht] at hty
    refine ia_putf hr hm.1.1 (by decide) ht hty rfl rfl ?_
    rw [hs]
    exact kk _ ⟨⟨rfl, fun q hq => hm.1.2 q hq⟩, sx_up hm.2.1 ⟨by decide, by decide⟩, hm.2.2⟩
end RM
theorem rm_placeOf {G : ia_G} {h : ia_H} {d n w : Nat} : ia_Cn pg G kk_M_placeOf d 0 0 [.int (nI n), .int (nI w)] h (fun rv h' => rv = some (.int (nI (500 * n + 121 * w))) ∧ h' = h) := by
  refine jd_met (ls := [.int (nI n), .int (nI w)]) rfl rfl rfl ?_
  refine ia_go 7 rfl ?_
  rw [show (500 : Int32) * nI n + 121 * nI w = nI (500 * n + 121 * w) by unfold nI; rw [Int32.ofNat_add, Int32.ofNat_mul, Int32.ofNat_mul]; rfl]
  exact jd_rv1 rfl rfl rfl trivial ⟨rfl, rfl⟩
theorem rm_lengthAt {G : ia_G} {h : ia_H} {d n w : Nat} (hn : 1 ≤ n) : ia_Cn pg G kk_M_lengthAt d 0 0 [.int (nI n), .int (nI w)] h (fun rv h' => rv = some (.int (nI (4 + 4 * (n - 1) + w))) ∧ h' = h) := by
  refine jd_met (ls := [.int (nI n), .int (nI w)]) rfl rfl rfl ?_
  refine ia_go 9 rfl ?_
  rw [show nI n - 1 = nI (n - 1) from jd_sub (b := 1) hn, show (4 : Int32) + 4 * nI (n - 1) + nI w = nI (4 + 4 * (n - 1) + w) by unfold nI; rw [Int32.ofNat_add, Int32.ofNat_add, Int32.ofNat_mul]; rfl]
  exact jd_rv1 rfl rfl rfl trivial ⟨rfl, rfl⟩
theorem rm_openText {G : ia_G} {h0 : ia_H} {d o : Nat} {F : Nat → Nat → Int32} {S : Nat → Int32} (hm0 : rm h0 F S) (ho : o < 6) : ia_Cn pg G kk_M_openText d 0 0 [.ref 117, .int (nI o)] h0 (fun rv h => rv = none ∧ rm_X h0 h (rm_u F 13 o 0) (rm_s S 6 (nI o))) := by
  have hm := hm0.X
  refine jd_met (ls := [.ref 117, .int (nI o)]) rfl rfl rfl ?_
  refine ia_go 1 rfl ?_
  refine ia_getf rfl hm.1.1 rfl ?_
  refine ia_go 2 rfl ?_
  refine rm_st (K := 13) rfl hm (by decide) rfl (show o < 6 from ho) (by decide) (fun h1 hm => ?_)
  refine ia_go 2 rfl ?_
  refine rm_put (sk := 6) rfl hm rfl rfl (fun h1 hm => ?_)
  exact jd_rv0 rfl rfl rfl ⟨rfl, hm⟩
