/-! THE JUDGE (cells 72 .. 75): its three rows of longs and the height. -/
def jg (h : ia_H) (F1 F2 F3 : Nat → Int64) (n : Nat) : Prop := h.1 72 = some (.inr (4, [.ref 73, .ref 74, .ref 75, .int (nI n)])) ∧ h.1 73 = some (.inl (.long, 120, fun j => .long (F1 j))) ∧ h.1 74 = some (.inl (.long, 120, fun j => .long (F2 j))) ∧ h.1 75 = some (.inl (.long, 120, fun j => .long (F3 j))) ∧ n ≤ 120
def jg_S (q : Nat) : Prop := 72 ≤ q ∧ q ≤ 75
/-- ... and since h0 nothing else has changed -/
def jg_X (h0 h : ia_H) (F1 F2 F3 : Nat → Int64) (n : Nat) : Prop := jg h F1 F2 F3 n ∧ sx_fr h0 h jg_S ∧ h.2 = h0.2
theorem jg.X {h : ia_H} {F1 F2 F3 : Nat → Int64} {n : Nat} (hj : jg h F1 F2 F3 n) : jg_X h h F1 F2 F3 n := ⟨hj, sx_fr.rf, rfl⟩
theorem jg_X.tr {h0 h1 h2 : ia_H} {F1 F2 F3 E1 E2 E3 : Nat → Int64} {n m : Nat} (a : jg_X h0 h1 F1 F2 F3 n) (b : jg_X h1 h2 E1 E2 E3 m) : jg_X h0 h2 E1 E2 E3 m := ⟨b.1, a.2.1.tr b.2.1, b.2.2.trans a.2.2⟩
theorem jg_updL (F : Nat → Int64) (i : Nat) (x : Int64) : updV (fun j => .long (F j)) i (.long x) = fun j => .long (vf_upd F i x j) := by
  funext j
  unfold updV vf_upd
  split <;> rfl
theorem sx_up {h0 h : ia_H} {a : Nat} {x : ia_E} {S : Nat → Prop} (hf : sx_fr h0 h S) (ha : S a) : sx_fr h0 (ia_up h.1 a x, h.2) S := hf.tr ⟨Nat.le_refl _, fun q _ hS => ia_up_ne fun z => hS (z ▸ ha)⟩
section JG
variable {G : ia_G} {k d bc bs pc : Nat} {ls st : List Value} {h0 h : ia_H} {Post : Option Value → ia_H → Prop} {nx tg r2 p n : Nat} {cst : Value} {F1 F2 F3 : Nat → Int64} {x : Int64}
theorem jg_ld1 (hr : ia_row pg k pc = some (.laload, nx, tg, r2, cst)) (hj : jg_X h0 h F1 F2 F3 n) (hp : p < 120) (kk : ia_Sx pg G k d bc bs nx ls (.long (F1 p) :: st) h Post) : ia_Sx pg G k d bc bs pc ls (.int (nI p) :: .ref 73 :: st) h Post := ia_lald hr hj.1.2.1 (vp_in_nI hp (by decide)) (v := .long (F1 p)) (by rw [nI_clamp (by omega)]) kk
theorem jg_ld2 (hr : ia_row pg k pc = some (.laload, nx, tg, r2, cst)) (hj : jg_X h0 h F1 F2 F3 n) (hp : p < 120) (kk : ia_Sx pg G k d bc bs nx ls (.long (F2 p) :: st) h Post) : ia_Sx pg G k d bc bs pc ls (.int (nI p) :: .ref 74 :: st) h Post := ia_lald hr hj.1.2.2.1 (vp_in_nI hp (by decide)) (v := .long (F2 p)) (by rw [nI_clamp (by omega)]) kk
theorem jg_ld3 (hr : ia_row pg k pc = some (.laload, nx, tg, r2, cst)) (hj : jg_X h0 h F1 F2 F3 n) (hp : p < 120) (kk : ia_Sx pg G k d bc bs nx ls (.long (F3 p) :: st) h Post) : ia_Sx pg G k d bc bs pc ls (.int (nI p) :: .ref 75 :: st) h Post := ia_lald hr hj.1.2.2.2.1 (vp_in_nI hp (by decide)) (v := .long (F3 p)) (by rw [nI_clamp (by omega)]) kk
theorem jg_st1 (hr : ia_row pg k pc = some (.lastore, nx, tg, r2, cst)) (hj : jg_X h0 h F1 F2 F3 n) (hp : p < 120) (kk : ∀ h' : ia_H, jg_X h0 h' (vf_upd F1 p x) F2 F3 n → ia_Sx pg G k d bc bs nx ls st h' Post) : ia_Sx pg G k d bc bs pc ls (.long x :: .int (nI p) :: .ref 73 :: st) h Post := by
  obtain ⟨⟨h1, h2, h3, h4, h5⟩, h6, h7⟩ := hj
  refine ia_last hr h2 (by decide) (vp_in_nI hp (by decide)) ?_
  rw [nI_clamp (by omega), jg_updL]
  exact kk _ ⟨⟨h1, rfl, h3, h4, h5⟩, sx_up h6 ⟨by decide, by decide⟩, h7⟩
theorem jg_st2 (hr : ia_row pg k pc = some (.lastore, nx, tg, r2, cst)) (hj : jg_X h0 h F1 F2 F3 n) (hp : p < 120) (kk : ∀ h' : ia_H, jg_X h0 h' F1 (vf_upd F2 p x) F3 n → ia_Sx pg G k d bc bs nx ls st h' Post) : ia_Sx pg G k d bc bs pc ls (.long x :: .int (nI p) :: .ref 74 :: st) h Post := by
  obtain ⟨⟨h1, h2, h3, h4, h5⟩, h6, h7⟩ := hj
  refine ia_last hr h3 (by decide) (vp_in_nI hp (by decide)) ?_
  rw [nI_clamp (by omega), jg_updL]
  exact kk _ ⟨⟨h1, h2, rfl, h4, h5⟩, sx_up h6 ⟨by decide, by decide⟩, h7⟩
theorem jg_st3 (hr : ia_row pg k pc = some (.lastore, nx, tg, r2, cst)) (hj : jg_X h0 h F1 F2 F3 n) (hp : p < 120) (kk : ∀ h' : ia_H, jg_X h0 h' F1 F2 (vf_upd F3 p x) n → ia_Sx pg G k d bc bs nx ls st h' Post) : ia_Sx pg G k d bc bs pc ls (.long x :: .int (nI p) :: .ref 75 :: st) h Post := by
  obtain ⟨⟨h1, h2, h3, h4, h5⟩, h6, h7⟩ := hj
  refine ia_last hr h4 (by decide) (vp_in_nI hp (by decide)) ?_
  rw [nI_clamp (by omega), jg_updL]
  exact kk _ ⟨⟨h1, h2, h3, rfl, h5⟩, sx_up h6 ⟨by decide, by decide⟩, h7⟩
/-- the height -/
theorem jg_ht {idx m : Nat} (hr : ia_row pg k pc = some (.putfield idx, nx, 4, 3, cst)) (hj : jg_X h0 h F1 F2 F3 n) (hm : m ≤ 120) (kk : ∀ h' : ia_H, jg_X h0 h' F1 F2 F3 m → ia_Sx pg G k d bc bs nx ls st h' Post) : ia_Sx pg G k d bc bs pc ls (.int (nI m) :: .ref 72 :: st) h Post := by
  obtain ⟨⟨h1, h2, h3, h4, h5⟩, h6, h7⟩ := hj
  refine ia_putf hr h1 (by decide) rfl rfl rfl rfl ?_
  exact kk _ ⟨⟨rfl, h2, h3, h4, hm⟩, sx_up h6 ⟨by decide, by decide⟩, h7⟩
end JG
theorem jg_pile {G : ia_G} {h0 : ia_H} {d n : Nat} {F1 F2 F3 : Nat → Int64} {x y z : Int64} (hj0 : jg h0 F1 F2 F3 n) (hn : n < 120) : ia_Cn pg G kk_J_pile d 0 0 [.ref 72, .long x, .long y, .long z] h0 (fun rv h => rv = none ∧ jg_X h0 h (vf_upd F1 n x) (vf_upd F2 n y) (vf_upd F3 n z) (n + 1)) := by
  have hj := hj0.X
  refine jd_met (ls := [.ref 72, .long x, .retAddr 0, .long y, .retAddr 0, .long z, .retAddr 0]) rfl rfl rfl ?_
  refine ia_go 1 rfl ?_
  refine ia_getf rfl hj.1.1 rfl ?_
  refine ia_go 2 rfl ?_
  rw [if_neg (show ¬ (120 : Int32) ≤ nI n from nI_ge (b := 120) hn (by decide))]
  refine ia_go 1 rfl ?_
  refine ia_getf rfl hj.1.1 rfl ?_
  refine ia_go 1 rfl ?_
  refine ia_getf rfl hj.1.1 rfl ?_
  refine ia_go 1 rfl ?_
  refine jg_st1 rfl hj hn (fun h1 hj => ?_)
  refine ia_go 1 rfl ?_
  refine ia_getf rfl hj.1.1 rfl ?_
  refine ia_go 1 rfl ?_
  refine ia_getf rfl hj.1.1 rfl ?_
  refine ia_go 1 rfl ?_
  refine jg_st2 rfl hj hn (fun h1 hj => ?_)
  refine ia_go 1 rfl ?_
  refine ia_getf rfl hj.1.1 rfl ?_
  refine ia_go 1 rfl ?_
  refine ia_getf rfl hj.1.1 rfl ?_
  refine ia_go 1 rfl ?_
  refine jg_st3 rfl hj hn (fun h1 hj => ?_)
  refine ia_go 2 rfl ?_
  refine ia_getf rfl hj.1.1 rfl ?_
  refine ia_go 2 rfl ?_
  rw [nI_1]
  refine jg_ht rfl hj (by omega) (fun h1 hj => ?_)
  exact jd_rv0 rfl rfl rfl ⟨rfl, hj⟩
theorem jg_neg {G : ia_G} {h0 : ia_H} {d n : Nat} {F1 F2 F3 : Nat → Int64} (hj0 : jg h0 F1 F2 F3 n) (hn : 1 ≤ n) : ia_Cn pg G kk_J_negate d 0 0 [.ref 72] h0 (fun rv h => rv = none ∧ jg_X h0 h (vf_upd F1 (n - 1) (F1 (n - 1) ^^^ (-1))) F2 F3 n) := by
  have hj := hj0.X
  have hle := hj0.2.2.2.2
  refine jd_met (ls := [.ref 72]) rfl rfl rfl ?_
  refine ia_go 1 rfl ?_
  refine ia_getf rfl hj.1.1 rfl ?_
  refine ia_go 2 rfl ?_
  rw [if_neg (show ¬ nI n < 1 from nI_nlt (b := 1) hn (by omega))]
  refine ia_go 1 rfl ?_
  refine ia_getf rfl hj.1.1 rfl ?_
  refine ia_go 1 rfl ?_
  refine ia_getf rfl hj.1.1 rfl ?_
  refine ia_go 3 rfl ?_
  refine ia_getf rfl hj.1.1 rfl ?_
  refine ia_go 1 rfl ?_
  refine ia_getf rfl hj.1.1 rfl ?_
  refine ia_go 2 rfl ?_
  rw [show nI n - 1 = nI (n - 1) from jd_sub (b := 1) hn]
  refine jg_ld1 rfl hj (by omega) ?_
  refine ia_ldc2 rfl ?_
  refine ia_go 1 rfl ?_
  refine jg_st1 rfl hj (by omega) (fun h1 hj => ?_)
  exact jd_rv0 rfl rfl rfl ⟨rfl, hj⟩
theorem jg_borrow {G : ia_G} {h : ia_H} {d : Nat} {x y z : Int64} : ia_Cn pg G kk_J_borrow d 0 0 [.long x, .long y, .long z] h (fun rv h' => rv = some (.long ((x ^^^ (-1)) &&& (y ||| z) ||| y &&& z)) ∧ h' = h) := by
  refine jd_met (ls := [.long x, .retAddr 0, .long y, .retAddr 0, .long z, .retAddr 0]) rfl rfl rfl ?_
  refine ia_go 1 rfl ?_
  refine ia_ldc2 rfl ?_
  refine ia_go 9 rfl ?_
  exact jd_rv1 rfl rfl rfl trivial ⟨rfl, rfl⟩
