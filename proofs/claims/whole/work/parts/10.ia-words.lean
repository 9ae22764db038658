/-! MY MACHINE, 1: words. A heap of numbered cells (a number below 64 is a cell that stood there before the law began: the script, string constants), values that name cells by these numbers, a table of methods with their decoded rows; what a state of the real machine has to do with it. -/
/-- a cell: an array (component type, length, contents) or an object (place of its class in the list of classes, fields) -/
abbrev ia_E : Type := (FieldType × Nat × (Nat → Value)) ⊕ (Nat × List Value)
/-- the cells, and the number of the next one -/
abbrev ia_H : Type := (Nat → Option ia_E) × Nat
/-- a decoded instruction: itself, the next pc, a target (a branch's pc, a callee's or a class's place), a second number (a field's place), a constant -/
abbrev ia_R : Type := Instr × Nat × Nat × Nat × Value
/-- a method: name, bytes, locals, result, number of parameters, steady words, nest words, rows -/
abbrev ia_M : Type := MethodName × ByteArray × Nat × Option FieldType × Nat × List Cond × List Cond × List (Nat × ia_R)
abbrev ia_my (M : ia_M) : MethodName := M.1
abbrev ia_mb (M : ia_M) : ByteArray := M.2.1
abbrev ia_ml (M : ia_M) : Nat := M.2.2.1
abbrev ia_mr (M : ia_M) : Option FieldType := M.2.2.2.1
abbrev ia_mn (M : ia_M) : Nat := M.2.2.2.2.1
abbrev ia_mw (M : ia_M) : List Cond := M.2.2.2.2.2.1
abbrev ia_mv (M : ia_M) : List Cond := M.2.2.2.2.2.2.1
abbrev ia_mo (M : ia_M) : List (Nat × ia_R) := M.2.2.2.2.2.2.2
abbrev ia_mc (M : ia_M) : Cond := .code (ia_my M) (ia_mb M) (ia_ml M) (ia_mr M)
/-- a program: methods, classes, the types of their fields, component types of arrays, classes that arrays are made of, string constants (class, place in its pool, text, cell), static fields (class, name, descriptor, value) -/
abbrev ia_P : Type := List ia_M × List vw_C × List (List FieldType) × List FieldType × List String × List (String × Nat × String × Nat) × List (String × String × String × Value)
abbrev ia_Pm (P : ia_P) : List ia_M := P.1
abbrev ia_Pc (P : ia_P) : List vw_C := P.2.1
abbrev ia_Pt (P : ia_P) : List (List FieldType) := P.2.2.1
abbrev ia_Py (P : ia_P) : List FieldType := P.2.2.2.1
abbrev ia_Po (P : ia_P) : List String := P.2.2.2.2.1
abbrev ia_Ps (P : ia_P) : List (String × Nat × String × Nat) := P.2.2.2.2.2.1
abbrev ia_Pz (P : ia_P) : List (String × String × String × Value) := P.2.2.2.2.2.2
/-- what a start fixes: the launch, class numbers and slots, array classes, the heap's size, where the old cells lie -/
abbrev ia_G : Type := Launch × va_G × (FieldType → ClassId) × Nat × (Nat → Nat)
def ia_ad (G : ia_G) (i : Nat) : Nat := if i < 64 then G.2.2.2.2 i else G.2.2.2.1 + (i - 64)
/-- a value as the machine has it; a return address stands for a value that nobody looks at: some reference, or null -/
def ia_cv (G : ia_G) : Value → Value
  | .ref a => .ref (ia_ad G a)
  | .retAddr _ => (match G.2.2.2.2 63 with
    | 0 => .null
    | t + 1 => .ref t)
  | v => v
def ia_A (G : ia_G) : Nat → Prop := fun q => G.2.2.2.1 ≤ q
def ia_up (h : Nat → Option ia_E) (a : Nat) (x : ia_E) : Nat → Option ia_E := fun q => if q = a then some x else h q
theorem ia_up_same {h : Nat → Option ia_E} {a : Nat} {x : ia_E} : ia_up h a x a = some x := if_pos rfl
theorem ia_up_ne {h : Nat → Option ia_E} {a q : Nat} {x : ia_E} (n : q ≠ a) : ia_up h a x q = h q := if_neg n
theorem ia_cv_cat (G : ia_G) (v : Value) : (ia_cv G v).category = v.category := by
  cases v with
  | retAddr k =>
    show (match G.2.2.2.2 63 with
    | 0 => Value.null
    | t + 1 => .ref t).category = 1
    split <;> rfl
  | _ => rfl
theorem ia_ad_hi {G : ia_G} {i : Nat} (h : 64 ≤ i) : ia_ad G i = G.2.2.2.1 + (i - 64) := if_neg (Nat.not_lt.mpr h)
theorem ia_ad_inj {G : ia_G} {i j : Nat} (hi : 64 ≤ i) (hj : 64 ≤ j) (h : ia_ad G i = ia_ad G j) : i = j := by
  rw [ia_ad_hi hi, ia_ad_hi hj] at h; omega
theorem ia_A_hi {G : ia_G} {i : Nat} (h : 64 ≤ i) : ia_A G (ia_ad G i) := by
  rw [ia_ad_hi h]; exact Nat.le_add_right _ _
/-- a cell that was there before: it can be read -/
def ia_wk (P : ia_P) (G : ia_G) (U : State) (i : Nat) (x : ia_E) (H : Heap) : Prop := match x with
  | .inl (ty, n, f) => va_T ty (ia_ad G i) n (fun j => ia_cv G (f j)) (ia_A G) U H
  | .inr (ci, fs) => ∃ r : vw_C, (ia_Pc P)[ci]? = some r ∧ va_O r.1 (ia_ad G i) (ia_A G) U H ∧ ∀ (k : Nat) (v : Value), fs[k]? = some v → va_OF (r.2.1 k).1 (r.2.1 k).2.1 (r.2.1 k).2.2.1 (ia_cv G v) (ia_ad G i) (ia_A G) U H
/-- a cell that was made since: it can be written -/
def ia_sg (P : ia_P) (G : ia_G) (i : Nat) (x : ia_E) (H : Heap) : Prop := match x with
  | .inl (ty, n, f) => ty ∈ ia_Py P ∧ H[ia_ad G i]? = some (arrV (G.2.2.1 ty) n (fun j => ia_cv G (f j)))
  | .inr (ci, fs) => ∃ r : vw_C, (ia_Pc P)[ci]? = some r ∧ fs.length = r.2.2 ∧ t_OB (ia_ad G i) (G.2.1.1 ci) r.2.2 (G.2.1.2 ci) H (vp_V (fs.map (ia_cv G)))
def ia_at (P : ia_P) (G : ia_G) (U : State) (i : Nat) (x : ia_E) (H : Heap) : Prop := if i < 64 then ia_wk P G U i x H else ia_sg P G i x H
/-- the heap H of the machine is the heap h of mine -/
def ia_L (P : ia_P) (G : ia_G) (U : State) (h : ia_H) (H : Heap) : Prop := (∀ (i : Nat) (x : ia_E), h.1 i = some x → ia_at P G U i x H) ∧ 64 ≤ h.2 ∧ H.size + 64 = G.2.2.2.1 + h.2 ∧ ∀ i : Nat, h.2 ≤ i → h.1 i = none
/-- what the tables, and the cells that nobody writes, say in a state -/
def ia_C (P : ia_P) (G : ia_G) (U : State) : Prop :=
  (∀ M ∈ ia_Pm P, (ia_mn M ≠ 99 → (ia_mc M).before #[] U = true) ∧ (∀ w ∈ ia_mw M, w.before #[] U = true) ∧ ∀ w ∈ ia_mv M, va_Nw w U) ∧
  va_K G.2.1 (ia_Pc P) ((ia_Py P).map fun t => (G.2.2.1 t, t)) U ∧
  (∀ r ∈ ia_Pc P, ∀ w ∈ u_ws r.1 r.2.1 r.2.2, w.before #[] U = true) ∧
  (∀ C ∈ ia_Po P, va_AO C U) ∧
  (∀ q ∈ ia_Ps P, vk_R q.1 q.2.1 q.2.2.1 (ia_ad G q.2.2.2) U) ∧
  (∀ q ∈ ia_Pz P, va_Z q.1 q.2.1 q.2.2.1 (ia_cv G q.2.2.2) (ia_A G) U U.heap) ∧ G.2.2.2.1 ≤ U.heap.size
/-- steady words, nest words: they stay when the tables warm up -/
def ia_wok (w : Cond) : Bool := (w.onTables && w.keeps) || (match w with | .arrayClass _ => true | _ => false)
def ia_nok (w : Cond) : Bool := match w with
  | .fieldLinkNest _ _ _ _ _ _ => true
  | .methodLinkNest _ _ _ _ => true
  | .castable _ _ => true
  | _ => false
theorem ia_wok_use {w : Cond} (h : ia_wok w = true) : (w.onTables && w.keeps) = true ∨ ∃ ty, w = .arrayClass ty := by
  unfold ia_wok at h
  rcases Bool.or_eq_true_iff.mp h with h | h
  · exact Or.inl h
  · right
    cases w with
    | arrayClass ty => exact ⟨ty, rfl⟩
    | _ => cases h
/-- what the words ask of a program -/
def ia_okW (P : ia_P) : Prop := (∀ M ∈ ia_Pm P, (∀ w ∈ ia_mw M, ia_wok w = true) ∧ ∀ w ∈ ia_mv M, ia_nok w = true) ∧ ∀ r ∈ ia_Pc P, ∀ w ∈ u_ws r.1 r.2.1 r.2.2, ia_wok w = true
theorem ia_mc_ok (M : ia_M) : ia_wok (ia_mc M) = true := by
  unfold ia_wok ia_mc
  first | rfl | simp [Cond.onTables, Cond.keeps, Cond.steady]
/-- a steady word says the same for other arguments -/
theorem ia_w {w : Cond} {s : State} {args : Array Value} (hw : ia_wok w = true) (h : w.before #[] s = true) : w.before args s = true := word_at (State.WarmedH.refl s) (ia_wok_use hw) h
theorem ia_C.warm {P : ia_P} {G : ia_G} {s U : State} {locs : List Loc} (ok : ia_okW P) (h : ia_C P G s) (hW : s.WarmedH U.vm) (hS : va_S (ia_A G) s.heap U.heap locs) : ia_C P G U := by
  obtain ⟨h1, h2, h3, h4, h5, h6, h7⟩ := h
  refine ⟨fun M hM => ⟨fun h99 => word_at hW (ia_wok_use (ia_mc_ok M)) ((h1 M hM).1 h99), fun w hw => word_at hW (ia_wok_use ((ok.1 M hM).1 w hw)) ((h1 M hM).2.1 w hw), fun w hw => ?_⟩, va_K.moved hW.alike h2, fun r hr w hw => word_at hW (ia_wok_use (ok.2 r hr w hw)) (h3 r hr w hw), fun C hC => va_AO.moved hW.alike (h4 C hC), fun q hq => vk_R.warm hW (h5 q hq), fun q hq => va_Z.moved hW.alike ((h6 q hq).kept hS.2.1), Nat.le_trans h7 hS.1⟩
  have h8 := (h1 M hM).2.2 w hw
  have h9 := (ok.1 M hM).2 w hw
  unfold ia_nok at h9
  split at h9
  next => exact va_Nw.warmF hW h8
  next => exact va_Nw.warmM hW h8
  next => exact va_Nw.warmC hW h8
  next => cases h9
/-- the frame of a call leaves them as they are -/
theorem ia_C.calling {P : ia_P} {G : ia_G} {U : State} (h : ia_C P G U) (g : JFrame) (mk : MethodId) (a : Array Value) (ok : ia_okW P) : ia_C P G (U.calling g mk a) :=
  h.warm (locs := []) ok (State.WarmedH.refl U) va_S.rf
theorem ia_wk.kept {P : ia_P} {G : ia_G} {u U : State} {i : Nat} {x : ia_E} {H H1 : Heap} (hvm : u.vm.Alike U.vm) (h : ia_wk P G u i x H) (hq : ∀ a : Nat, a < H.size → ¬ ia_A G a → H1[a]? = H[a]?) : ia_wk P G U i x H1 := by
  cases x with
  | inl a => exact va_T.moved hvm (va_T.kept h hq)
  | inr o =>
    obtain ⟨r, h1, h2, h3⟩ := h
    exact ⟨r, h1, va_O.moved hvm (h2.kept hq), fun k v hv => va_OF.moved hvm ((h3 k v hv).kept hq)⟩
theorem ia_wk.low {P : ia_P} {G : ia_G} {U : State} {i : Nat} {x : ia_E} {H : Heap} (h : ia_wk P G U i x H) : ¬ ia_A G (ia_ad G i) := by
  cases x with
  | inl a =>
    obtain ⟨cell, h1, h2, h3, h4, h5, h6, h7⟩ := h
    exact h7
  | inr o =>
    obtain ⟨r, h1, ⟨cell, g1, g2, g3, g4⟩, h3⟩ := h
    exact g4
theorem ia_sg.kept {P : ia_P} {G : ia_G} {i : Nat} {x : ia_E} {H H1 : Heap} (h : ia_sg P G i x H) (hq : H1[ia_ad G i]? = H[ia_ad G i]?) : ia_sg P G i x H1 := by
  cases x with
  | inl a => exact ⟨h.1, hq.trans h.2⟩
  | inr o =>
    obtain ⟨r, h1, h2, h3⟩ := h
    exact ⟨r, h1, h2, h3.kept hq⟩
theorem ia_sg.lt {P : ia_P} {G : ia_G} {i : Nat} {x : ia_E} {H : Heap} (h : ia_sg P G i x H) : ia_ad G i < H.size := by
  cases x with
  | inl a => exact (Array.getElem?_eq_some_iff.mp h.2).1
  | inr o =>
    obtain ⟨r, h1, h2, cell, q1, q2⟩ := h
    exact (Array.getElem?_eq_some_iff.mp q1).1
/-- another state's tables -/
theorem ia_L.moved {P : ia_P} {G : ia_G} {u U : State} {h : ia_H} {H : Heap} (hvm : u.vm.Alike U.vm) (k : ia_L P G u h H) : ia_L P G U h H := by
  refine ⟨fun i x hx => ?_, k.2⟩
  have hy := k.1 i x hx
  unfold ia_at at hy ⊢
  split
  next hi =>
    rw [if_pos hi] at hy
    exact hy.kept hvm (fun _ _ _ => rfl)
  next hi =>
    rw [if_neg hi] at hy
    exact hy
/-- a write of the cell i -/
theorem ia_L.set {P : ia_P} {G : ia_G} {U : State} {h : ia_H} {H H1 : Heap} {i : Nat} {x y : ia_E} (k : ia_L P G U h H) (hi : 64 ≤ i) (hx : h.1 i = some x) (hz : H1.size = H.size) (ho : ∀ q : Nat, q ≠ ia_ad G i → H1[q]? = H[q]?) (hy : ia_sg P G i y H1) : ia_L P G U (ia_up h.1 i y, h.2) H1 := by
  obtain ⟨k1, k2, k3, k4⟩ := k
  refine ⟨fun j z hj => ?_, k2, by rw [hz]; exact k3, fun j hj => ?_⟩
  · by_cases hji : j = i
    · subst hji
      rw [show (ia_up h.1 j y, h.2).1 j = some y from ia_up_same] at hj
      cases hj
      unfold ia_at
      rw [if_neg (Nat.not_lt.mpr hi)]
      exact hy
    · rw [show (ia_up h.1 i y, h.2).1 j = h.1 j from ia_up_ne hji] at hj
      have hw := k1 j z hj
      unfold ia_at at hw ⊢
      by_cases hl : j < 64
      · rw [if_pos hl] at hw ⊢
        exact hw.kept (Vm.Alike.refl _) (fun a _ ha => ho a (fun e => ha (by rw [e]; exact ia_A_hi hi)))
      · rw [if_neg hl] at hw ⊢
        exact hw.kept (ho _ (fun e => hji (ia_ad_inj (Nat.not_lt.mp hl) hi e)))
  · have hne : j ≠ i := fun e => by
      have h9 := k4 j hj
      rw [e, hx] at h9
      cases h9
    rw [show (ia_up h.1 i y, h.2).1 j = h.1 j from ia_up_ne hne]
    exact k4 j hj
/-- a new cell -/
theorem ia_L.push {P : ia_P} {G : ia_G} {U : State} {h : ia_H} {H H1 : Heap} {y : ia_E} (k : ia_L P G U h H) (hz : H1.size = H.size + 1) (ho : ∀ q : Nat, q < H.size → H1[q]? = H[q]?) (hb : G.2.2.2.1 ≤ H.size) (hy : ia_sg P G h.2 y H1) : ia_L P G U (ia_up h.1 h.2 y, h.2 + 1) H1 := by
  obtain ⟨k1, k2, k3, k4⟩ := k
  refine ⟨fun j z hj => ?_, Nat.le_succ_of_le k2, by rw [hz]; show H.size + 1 + 64 = _ + (h.2 + 1); omega, fun j hj => ?_⟩
  · by_cases hji : j = h.2
    · subst hji
      rw [show (ia_up h.1 h.2 y, h.2 + 1).1 h.2 = some y from ia_up_same] at hj
      cases hj
      unfold ia_at
      rw [if_neg (Nat.not_lt.mpr k2)]
      exact hy
    · rw [show (ia_up h.1 h.2 y, h.2 + 1).1 j = h.1 j from ia_up_ne hji] at hj
      have hw := k1 j z hj
      unfold ia_at at hw ⊢
      by_cases hl : j < 64
      · rw [if_pos hl] at hw ⊢
        exact hw.kept (Vm.Alike.refl _) (fun a ha _ => ho a ha)
      · rw [if_neg hl] at hw ⊢
        exact hw.kept (ho _ hw.lt)
  · have h9 : h.2 + 1 ≤ j := hj
    rw [show (ia_up h.1 h.2 y, h.2 + 1).1 j = h.1 j from ia_up_ne (by omega)]
    exact k4 j (by omega)
theorem ia_L.next {P : ia_P} {G : ia_G} {U : State} {h : ia_H} {H : Heap} (k : ia_L P G U h H) : ia_ad G h.2 = H.size := by
  rw [ia_ad_hi k.2.1]
  have h1 := k.2.1
  have h2 := k.2.2.1
  omega
/-- an array can be read -/
theorem ia_L.arr {P : ia_P} {G : ia_G} {s : State} {h : ia_H} {H : Heap} {i n : Nat} {ty : FieldType} {f : Nat → Value} (k : ia_L P G s h H) (hK : va_K G.2.1 (ia_Pc P) ((ia_Py P).map fun t => (G.2.2.1 t, t)) s) (hx : h.1 i = some (.inl (ty, n, f))) :
    ∃ cell : Cell, H[ia_ad G i]? = some cell ∧ s.isArrayOf cell ty ∧ cell.vm ≠ .unknown ∧ n ≤ cell.slots.size ∧ cell.slots.size.toInt32 = Int32.ofNat n ∧ ∀ j : Nat, j < n → cell.slots[j]? = some (ia_cv G (f j)) := by
  have hy := k.1 i _ hx
  unfold ia_at at hy
  split at hy
  next =>
    obtain ⟨cell, h1, h2, h3, h4, h5, h6, h7⟩ := hy
    exact ⟨cell, h1, h2, h3, h4, h5, h6⟩
  next =>
    obtain ⟨hm, hc⟩ := hy
    obtain ⟨t0, ht0⟩ := List.getElem?_of_mem hm
    have h9 := (hK.2 t0 (G.2.2.1 ty, ty) (by rw [List.getElem?_map, ht0]; rfl)).1 n (fun j => ia_cv G (f j))
    have h8 : (arrV (G.2.2.1 ty) n fun j => ia_cv G (f j)).slots.size = n := arrV_size _ _ _
    exact ⟨_, hc, h9, (fun q => by cases q), (by rw [h8]; exact Nat.le_refl _), (by rw [h8] <;> rfl), fun j hj => arrV_read _ _ hj⟩
/-- an object can be read -/
theorem ia_L.obj {P : ia_P} {G : ia_G} {s : State} {h : ia_H} {H : Heap} {i ci : Nat} {fs : List Value} (k : ia_L P G s h H) (hK : va_K G.2.1 (ia_Pc P) ((ia_Py P).map fun t => (G.2.2.1 t, t)) s) (hx : h.1 i = some (.inr (ci, fs))) :
    ∃ (r : vw_C) (cell : Cell), (ia_Pc P)[ci]? = some r ∧ H[ia_ad G i]? = some cell ∧ cell.vm.isStatics = false ∧ s.vm.findClass r.1 = some cell.cls := by
  have hy := k.1 i _ hx
  unfold ia_at at hy
  split at hy
  next =>
    obtain ⟨r, h1, ⟨cell, g1, g2, g3, g4⟩, h3⟩ := hy
    exact ⟨r, cell, h1, g1, g2, g3⟩
  next =>
    obtain ⟨r, h1, h2, cell, q1, q2, q3, q4⟩ := hy
    exact ⟨r, cell, h1, q1, by rw [q3]; rfl, by rw [q2]; exact (hK.1 ci r h1).2.1⟩
