/-! MY MACHINE, 3: the judgement ia_Sx ('from here my machine comes to a return with Post'), and a rule for each instruction that reads or writes cells. -/
def ia_hw (ws : List Cond) (w : Cond) : Bool := ws.any fun v => decide (v = w)
theorem ia_hw_use {ws : List Cond} {w : Cond} (h : ia_hw ws w = true) : w ∈ ws := by
  obtain ⟨v, hv, he⟩ := List.any_eq_true.mp h
  rw [← of_decide_eq_true he]; exact hv
/-- a field's link: plain or a nest mate's; 'ref' is the class by which the code spells it -/
def ia_fl1 (M : ia_M) (idx : Nat) (O n d : String) (w : Cond) : Bool := match w with
  | .fieldLink a i ref n' d' => decide (a = (ia_my M).cls) && (decide (i = idx) && (decide (n' = n) && (decide (d' = d) && (decide (ref = O) || ia_hw (ia_mw M) (.sameField ref O n d)))))
  | _ => false
def ia_fl2 (M : ia_M) (idx : Nat) (O n d : String) (w : Cond) : Bool := match w with
  | .fieldLinkNest a i ref n' d' _ => decide (a = (ia_my M).cls) && (decide (i = idx) && (decide (n' = n) && (decide (d' = d) && (decide (ref = O) || ia_hw (ia_mw M) (.sameField ref O n d)))))
  | _ => false
def ia_fl (M : ia_M) (idx : Nat) (O n d : String) : Bool := (ia_mw M).any (ia_fl1 M idx O n d) || (ia_mv M).any (ia_fl2 M idx O n d)
theorem ia_fl_use {M : ia_M} {idx : Nat} {O n d : String} (h : ia_fl M idx O n d = true) :
    ∃ ref, (Cond.fieldLink (ia_my M).cls idx ref n d ∈ ia_mw M ∨ ∃ host, Cond.fieldLinkNest (ia_my M).cls idx ref n d host ∈ ia_mv M) ∧ (ref = O ∨ Cond.sameField ref O n d ∈ ia_mw M) := by
  unfold ia_fl at h
  rcases Bool.or_eq_true_iff.mp h with h | h
  · obtain ⟨w, hw, h⟩ := List.any_eq_true.mp h
    unfold ia_fl1 at h
    split at h
    next a i ref n' d' =>
      obtain ⟨h1, hA⟩ := Bool.and_eq_true_iff.mp h
      obtain ⟨h2, hB⟩ := Bool.and_eq_true_iff.mp hA
      obtain ⟨h3, hC⟩ := Bool.and_eq_true_iff.mp hB
      obtain ⟨h4, hD⟩ := Bool.and_eq_true_iff.mp hC
      cases of_decide_eq_true h1; cases of_decide_eq_true h2; cases of_decide_eq_true h3; cases of_decide_eq_true h4
      refine ⟨ref, Or.inl hw, ?_⟩
      rcases Bool.or_eq_true_iff.mp hD with hE | hE
      · exact Or.inl (of_decide_eq_true hE)
      · exact Or.inr (ia_hw_use hE)
    next => cases h
  · obtain ⟨w, hw, h⟩ := List.any_eq_true.mp h
    unfold ia_fl2 at h
    split at h
    next a i ref n' d' host =>
      obtain ⟨h1, hA⟩ := Bool.and_eq_true_iff.mp h
      obtain ⟨h2, hB⟩ := Bool.and_eq_true_iff.mp hA
      obtain ⟨h3, hC⟩ := Bool.and_eq_true_iff.mp hB
      obtain ⟨h4, hD⟩ := Bool.and_eq_true_iff.mp hC
      cases of_decide_eq_true h1; cases of_decide_eq_true h2; cases of_decide_eq_true h3; cases of_decide_eq_true h4
      refine ⟨ref, Or.inr ⟨host, hw⟩, ?_⟩
      rcases Bool.or_eq_true_iff.mp hD with hE | hE
      · exact Or.inl (of_decide_eq_true hE)
      · exact Or.inr (ia_hw_use hE)
    next => cases h
/-- what a row's links ask of the method's words: the target is a class's place, the second number a field's -/
def ia_rok (P : ia_P) (M : ia_M) (q : Nat × ia_R) : Bool := match q.2 with
  | (i, _, tg, r2, cst) => match i with
    | .getfield idx => (match (ia_Pc P)[tg]? with
      | some r => decide (r2 < r.2.2) && ia_fl M idx (r.2.1 r2).1 (r.2.1 r2).2.1 (r.2.1 r2).2.2.1
      | none => false)
    | .putfield idx => (match (ia_Pc P)[tg]? with
      | some r => decide (r2 < r.2.2) && (ia_fl M idx (r.2.1 r2).1 (r.2.1 r2).2.1 (r.2.1 r2).2.2.1 && (decide ((r.2.1 r2).2.2.2 = false) || (decide ((ia_my M).name = "<init>") && (decide ((r.2.1 r2).1 = (ia_my M).cls) && (ia_mw M).any (ia_fl1 M idx (r.2.1 r2).1 (r.2.1 r2).2.1 (r.2.1 r2).2.2.1)))))
      | none => false)
    | .getstatic idx => (ia_Pz P).any fun z => decide (z.2.2.2 = cst) && ia_hw (ia_mw M) (.fieldLink (ia_my M).cls idx z.1 z.2.1 z.2.2.1)
    | .new idx => (match (ia_Pc P)[tg]? with
      | some r => ia_hw (ia_mw M) (.classLink (ia_my M).cls idx r.1) && (ia_hw (ia_mw M) (.instantiable r.1 r.2.2) && ia_hw (ia_mw M) (.initialized r.1))
      | none => false)
    | .newarray t => ia_hw (ia_mw M) (.arrayClass (newarray.typeOf t)) && decide (newarray.typeOf t ∈ ia_Py P)
    | .anewarray idx => (match (ia_Py P)[tg]? with
      | some (.object C) => ia_hw (ia_mw M) (.classLink (ia_my M).cls idx C) && decide (C ∈ ia_Po P)
      | _ => false)
    | .ldc idx => (match cst with
      | .int v => ia_hw (ia_mw M) (.constant (ia_my M).cls idx v)
      | .ref a => (ia_Ps P).any fun z => decide (z.1 = (ia_my M).cls) && (decide (z.2.1 = idx) && decide (z.2.2.2 = a))
      | _ => false)
    | .ldc_w idx => (match cst with
      | .int v => ia_hw (ia_mw M) (.constant (ia_my M).cls idx v)
      | .ref a => (ia_Ps P).any fun z => decide (z.1 = (ia_my M).cls) && (decide (z.2.1 = idx) && decide (z.2.2.2 = a))
      | _ => false)
    | .checkcast idx => ia_hw (ia_mw M) (.classLink (ia_my M).cls idx "[B")
    | .ldc2_w idx => (match cst with
      | .long v => ia_hw (ia_mw M) (.constantLong (ia_my M).cls idx v)
      | _ => false)
    | _ => true
/-- a class's fields: types, names -/
def ia_okC (P : ia_P) : Prop := ∀ (ci : Nat) (r : vw_C), (ia_Pc P)[ci]? = some r → ∃ ts : List FieldType, (ia_Pt P)[ci]? = some ts ∧ ts.length = r.2.2 ∧ (∀ k t, ts[k]? = some t → parseFieldDescriptor (r.2.1 k).2.2.1 = some t) ∧ ∀ a, a < r.2.2 → ∀ b, b < r.2.2 → a ≠ b → (r.2.1 a).2.1 ≠ (r.2.1 b).2.1
def ia_okP (P : ia_P) : Prop := ia_okW P ∧ ia_okC P ∧ ∀ M ∈ ia_Pm P, plainName (ia_my M).cls = true ∧ ∀ q ∈ ia_mo M, ia_dec (ia_mb M) q = true ∧ ia_rok P M q = true
def ia_row (P : ia_P) (k pc : Nat) : Option ia_R := match (ia_Pm P)[k]? with
  | some M => (ia_mo M).lookup pc
  | none => none
theorem ia_lookup {l : List (Nat × ia_R)} {pc : Nat} {r : ia_R} (h : l.lookup pc = some r) : (pc, r) ∈ l := by
  induction l with
  | nil => cases h
  | cons q t ih =>
    obtain ⟨a, b⟩ := q
    rw [List.lookup_cons] at h
    by_cases he : pc == a
    · rw [he] at h
      cases h
      rw [eq_of_beq he]
      exact List.mem_cons_self
    · rw [Bool.eq_false_iff.mpr he] at h
      exact List.mem_cons_of_mem _ (ih h)
theorem ia_row_use {P : ia_P} {k pc : Nat} {r : ia_R} {M : ia_M} (ok : ia_okP P) (hM : (ia_Pm P)[k]? = some M) (h : ia_row P k pc = some r) : ia_dec (ia_mb M) (pc, r) = true ∧ ia_rok P M (pc, r) = true := by
  unfold ia_row at h
  rw [hM] at h
  exact (ok.2.2 M (List.mem_of_getElem? hM)).2 _ (ia_lookup h)
def ia_ns : Instr → Bool
  | .tableswitch _ _ _ _ => false
  | .lookupswitch _ _ => false
  | _ => true
/-- an instruction that isn't a switch -/
theorem ia_dec_use {cc : ByteArray} {pc nx tg r2 : Nat} {cst : Value} {i : Instr} (h : ia_dec cc (pc, (i, nx, tg, r2, cst)) = true) (hi : ia_ns i = true) : decode cc pc = .ok (i, ia_len i) ∧ nx = pc + ia_len i := by
  unfold ia_dec at h
  dsimp only at h
  split at h
  next => cases hi
  next => cases hi
  next =>
    obtain ⟨h1, h⟩ := Bool.and_eq_true_iff.mp h
    obtain ⟨h2, -⟩ := Bool.and_eq_true_iff.mp h
    exact ⟨of_decide_eq_true h1, of_decide_eq_true h2⟩
/-- results -/
def ia_ri : Option FieldType → Instr
  | none => .return_
  | some .long => .lreturn
  | some (.object _) => .areturn
  | some (.array _) => .areturn
  | some _ => .ireturn
def ia_rv : Option FieldType → Option Value → Prop
  | none, none => True
  | some .long, some (.long _) => True
  | some (.object _), some .null => True
  | some (.object _), some (.ref _) => True
  | some (.array _), some .null => True
  | some (.array _), some (.ref _) => True
  | some .int, some (.int _) => True
  | some .boolean, some (.int v) => narrow .boolean (.int v) = .int v
  | some .byte, some (.int v) => narrow .byte (.int v) = .int v
  | some .char, some (.int v) => narrow .char (.int v) = .int v
  | some .short, some (.int v) => narrow .short (.int v) = .int v
  | _, _ => False
/-- what a method's body knows of the machine -/
def ia_B (P : ia_P) (G : ia_G) (M : ia_M) (d : Nat) (p : Program) (R : Room) (s : State) (m : MethodId) (meth : Method) (c : Code) : Prop :=
  p.tables.exec = Jvm.exec ∧ c.code = ia_mb M ∧ c.maxLocals = ia_ml M ∧ meth.name = (ia_my M).name ∧ s.vm.findClass (ia_my M).cls = some m.cls ∧ ia_C P G s ∧ d ≤ R.frames ∧ 64 * d ≤ R.locals
def ia_Sx (P : ia_P) (G : ia_G) (k d bc bs pc : Nat) (ls st : List Value) (h : ia_H) (Post : Option Value → ia_H → Prop) : Prop :=
  ia_okP P → ∀ M : ia_M, (ia_Pm P)[k]? = some M → ∀ (p : Program) (e : Env) (R : Room) (s : State) (m : MethodId) (args : Array Value) (below : List Frame) (meth : Method) (c : Code) (lc : Array Slot) (H : Heap) (locs : List Loc) (cells slots : Nat) (Q : State → Prop),
    ia_B P G M d p R s m meth c → ia_ls G lc (ia_ml M) ls → va_S (ia_A G) s.heap H locs → ia_L P G s h H → cells + bc ≤ R.cells → slots + bs ≤ R.slots →
    (∀ (rv : Option Value) (h' : ia_H) (lc' : Array Slot) (H' : Heap) (locs' : List Loc) (cells' slots' pc' : Nat), Post rv h' → va_S (ia_A G) s.heap H' locs' → ia_L P G s h' H' → cells' ≤ R.cells → slots' ≤ R.slots → ia_rv (ia_mr M) rv → decode (ia_mb M) pc' = .ok (ia_ri (ia_mr M), 1) →
      W p G.1 e R s m args below meth c H' locs' cells' slots' Q (F0 m pc' lc' (rv.toList.map (ia_cv G)))) →
    W p G.1 e R s m args below meth c H locs cells slots Q (F0 m pc lc (st.map (ia_cv G)))
section IA3
variable {P : ia_P} {G : ia_G} {k d bc bs pc : Nat} {ls st : List Value} {h : ia_H} {Post : Option Value → ia_H → Prop}
/-- several pure steps -/
def ia_run (P : ia_P) (k : Nat) : Nat → Nat → List Value → List Value → Option (Nat × List Value × List Value)
  | 0, pc, ls, st => some (pc, ls, st)
  | n + 1, pc, ls, st => match ia_row P k pc with
    | none => none
    | some r => match ia_pu pc r ls st with
      | none => none
      | some (pc', ls', st') => ia_run P k n pc' ls' st'
theorem ia_go1 {pc' : Nat} {ls' st' : List Value} {r : ia_R} (hr : ia_row P k pc = some r) (hs : ia_pu pc r ls st = some (pc', ls', st')) (kk : ia_Sx P G k d bc bs pc' ls' st' h Post) : ia_Sx P G k d bc bs pc ls st h Post := by
  intro ok M hM p e R s m args below meth c lc H locs cells slots Q B hl hS hL hc hs' kq
  exact ia_pure B.1 B.2.1 (ia_row_use ok hM hr).1 hl hs (fun lc' hl' => kk ok M hM p e R s m args below meth c lc' H locs cells slots Q B hl' hS hL hc hs' kq)
theorem ia_go (n : Nat) {pc' : Nat} {ls' st' : List Value} (hs : ia_run P k n pc ls st = some (pc', ls', st')) (kk : ia_Sx P G k d bc bs pc' ls' st' h Post) : ia_Sx P G k d bc bs pc ls st h Post := by
  induction n generalizing pc ls st with
  | zero => cases hs; exact kk
  | succ n ih =>
    unfold ia_run at hs
    split at hs
    next => cases hs
    next r hr =>
      split at hs
      next => cases hs
      next p2 l2 s2 hp => exact ia_go1 hr hp (ih hs)
/-- a return -/
theorem ia_ret {nx tg r2 : Nat} {cst : Value} {i : Instr} {rv : Option Value} (hr : ia_row P k pc = some (i, nx, tg, r2, cst)) {t : Option FieldType} (ht : ((ia_Pm P)[k]?).map (fun M => ia_mr M) = some t) (hi : i = ia_ri t) (hst : st = rv.toList) (hv : ia_rv t rv) (hp : Post rv h) : ia_Sx P G k d bc bs pc ls st h Post := by
  intro ok M hM p e R s m args below meth c lc H locs cells slots Q B hl hS hL hc hs' kq
  rw [hM] at ht
  have ht2 : ia_mr M = t := Option.some.inj ht
  subst ht2
  subst hst
  refine kq rv h lc H locs cells slots pc hp hS hL (by omega) (by omega) hv ?_
  have hd := (ia_row_use ok hM hr).1
  subst hi
  have h9 := ia_dec_use hd (by cases hm : ia_mr M with
    | none => rfl
    | some t => cases t <;> rfl)
  rw [h9.1]
  cases hm : ia_mr M with
  | none => rfl
  | some t => cases t <;> rfl
/-- weaker ends, more room -/
theorem ia_Sx.mono {Post' : Option Value → ia_H → Prop} (k1 : ia_Sx P G k d bc bs pc ls st h Post') (hp : ∀ rv h', Post' rv h' → Post rv h') : ia_Sx P G k d bc bs pc ls st h Post := by
  intro ok M hM p e R s m args below meth c lc H locs cells slots Q B hl hS hL hc hs' kq
  exact k1 ok M hM p e R s m args below meth c lc H locs cells slots Q B hl hS hL hc hs' (fun rv h' lc' H' locs' cells' slots' pc' a1 => kq rv h' lc' H' locs' cells' slots' pc' (hp _ _ a1))
theorem ia_Sx.room {d' bc' bs' : Nat} (k1 : ia_Sx P G k d' bc' bs' pc ls st h Post) (h1 : d' ≤ d) (h2 : bc' ≤ bc) (h3 : bs' ≤ bs) : ia_Sx P G k d bc bs pc ls st h Post := by
  intro ok M hM p e R s m args below meth c lc H locs cells slots Q B hl hS hL hc hs' kq
  obtain ⟨b1, b2, b3, b4, b5, b6, b7, b8⟩ := B
  exact k1 ok M hM p e R s m args below meth c lc H locs cells slots Q ⟨b1, b2, b3, b4, b5, b6, by omega, by omega⟩ hl hS hL (by omega) (by omega) kq
/-- constants out of the pool -/
theorem ia_ldc {nx tg r2 idx : Nat} {v : Int32} (hr : ia_row P k pc = some (.ldc idx, nx, tg, r2, .int v)) (kk : ia_Sx P G k d bc bs nx ls (.int v :: st) h Post) : ia_Sx P G k d bc bs pc ls st h Post := by
  intro ok M hM p e R s m args below meth c lc H locs cells slots Q B hl hS hL hc hs' kq
  obtain ⟨hd0, ho0⟩ := ia_row_use ok hM hr
  obtain ⟨hd, rfl⟩ := ia_dec_use hd0 rfl
  have hw := ia_hw_use (show ia_hw (ia_mw M) (.constant (ia_my M).cls idx v) = true from ho0)
  have hMm := List.mem_of_getElem? hM
  exact lv_ldc B.1 B.2.1 B.2.2.2.2.1 (ia_w ((ok.1.1 M hMm).1 _ hw) ((B.2.2.2.2.2.1.1 M hMm).2.1 _ hw)) hd (kk ok M hM p e R s m args below meth c lc H locs cells slots Q B hl hS hL hc hs' kq)
theorem ia_ldc2 {nx tg r2 idx : Nat} {v : Int64} (hr : ia_row P k pc = some (.ldc2_w idx, nx, tg, r2, .long v)) (kk : ia_Sx P G k d bc bs nx ls (.long v :: st) h Post) : ia_Sx P G k d bc bs pc ls st h Post := by
  intro ok M hM p e R s m args below meth c lc H locs cells slots Q B hl hS hL hc hs' kq
  obtain ⟨hd0, ho0⟩ := ia_row_use ok hM hr
  obtain ⟨hd, rfl⟩ := ia_dec_use hd0 rfl
  have hw := ia_hw_use (show ia_hw (ia_mw M) (.constantLong (ia_my M).cls idx v) = true from ho0)
  have hMm := List.mem_of_getElem? hM
  exact lv_ldc2 B.1 B.2.1 B.2.2.2.2.1 (ia_w ((ok.1.1 M hMm).1 _ hw) ((B.2.2.2.2.2.1.1 M hMm).2.1 _ hw)) hd (kk ok M hM p e R s m args below meth c lc H locs cells slots Q B hl hS hL hc hs' kq)
theorem ia_ldcS {nx tg r2 idx a : Nat} (hr : ia_row P k pc = some (.ldc idx, nx, tg, r2, .ref a)) (kk : ia_Sx P G k d bc bs nx ls (.ref a :: st) h Post) : ia_Sx P G k d bc bs pc ls st h Post := by
  intro ok M hM p e R s m args below meth c lc H locs cells slots Q B hl hS hL hc hs' kq
  obtain ⟨hd0, ho0⟩ := ia_row_use ok hM hr
  obtain ⟨hd, rfl⟩ := ia_dec_use hd0 rfl
  obtain ⟨z, hz, ho⟩ := List.any_eq_true.mp (show ((ia_Ps P).any fun z => decide (z.1 = (ia_my M).cls) && (decide (z.2.1 = idx) && decide (z.2.2.2 = a))) = true from ho0)
  obtain ⟨h1, ho⟩ := Bool.and_eq_true_iff.mp ho
  obtain ⟨h2, h3⟩ := Bool.and_eq_true_iff.mp ho
  have h1 := of_decide_eq_true h1
  have h2 := of_decide_eq_true h2
  have h3 := of_decide_eq_true h3
  have hR := B.2.2.2.2.2.1.2.2.2.2.1 z hz
  rw [h1, h2, h3] at hR
  exact va_ldcS B.1 B.2.1 B.2.2.2.2.1 hR hd (kk ok M hM p e R s m args below meth c lc H locs cells slots Q B hl hS hL hc hs' kq)
theorem ia_Wldcw {p : Program} {l : Launch} {e : Env} {R : Room} {s : State} {m : MethodId} {args : Array Value} {below : List Frame} {meth : Method} {c : Code} {H : Heap} {locs : List Loc} {cells slots : Nat} {Q : State → Prop} {cc : ByteArray} {pc : Nat} {ls : Array Slot} {rest : List Value} (hexec : p.tables.exec = Jvm.exec) (hb : c.code = cc) {own tx : String} {index q : Nat} (hown : s.vm.findClass own = some m.cls) (hZ : vk_R own index tx q s) (hdg : decode cc pc = .ok (.ldc_w index, 3))
    (k : W p l e R s m args below meth c H locs cells slots Q (F0 m (pc + 3) ls (.ref q :: rest))) : W p l e R s m args below meth c H locs cells slots Q (F0 m pc ls rest) := by
  intro T hT X
  obtain ⟨t, a1, b1⟩ := k T hT X
  refine ⟨t, ?_, b1⟩
  obtain ⟨k0, cf, i, a', hk, hcf, hcp, -, hr, hev'⟩ := Cond.stringRef_spec hown hZ.1
  cases hZ.2.symm.trans hev'
  obtain ⟨k', hk', he⟩ := X.warmed.alike.2.2 _ _ hk
  have hr' : k'.resolved[index]? = some (some (.string q)) := by
    rcases X.warmed.entry hk hk' index with h | ⟨h, -⟩
    · rw [h]; exact hr
    · rw [hr] at h; cases h
  jvm_step X.here [hexec, hb, hdg, ldc_w.wp_string (e := e) (s := T) (f := F0 m pc ls rest) X.here.top hk' (by rw [he]; exact hcf) hcp hr']
  exact a1
theorem ia_ldcwS {nx tg r2 idx a : Nat} (hr : ia_row P k pc = some (.ldc_w idx, nx, tg, r2, .ref a)) (kk : ia_Sx P G k d bc bs nx ls (.ref a :: st) h Post) : ia_Sx P G k d bc bs pc ls st h Post := by
  intro ok M hM p e R s m args below meth c lc H locs cells slots Q B hl hS hL hc hs' kq
  obtain ⟨hd0, ho0⟩ := ia_row_use ok hM hr
  obtain ⟨hd, rfl⟩ := ia_dec_use hd0 rfl
  obtain ⟨z, hz, ho⟩ := List.any_eq_true.mp (show ((ia_Ps P).any fun z => decide (z.1 = (ia_my M).cls) && (decide (z.2.1 = idx) && decide (z.2.2.2 = a))) = true from ho0)
  obtain ⟨h1, ho⟩ := Bool.and_eq_true_iff.mp ho
  obtain ⟨h2, h3⟩ := Bool.and_eq_true_iff.mp ho
  have h1 := of_decide_eq_true h1
  have h2 := of_decide_eq_true h2
  have h3 := of_decide_eq_true h3
  have hR := B.2.2.2.2.2.1.2.2.2.2.1 z hz
  rw [h1, h2, h3] at hR
  exact ia_Wldcw B.1 B.2.1 B.2.2.2.2.1 hR hd (kk ok M hM p e R s m args below meth c lc H locs cells slots Q B hl hS hL hc hs' kq)
theorem ia_ldcw {nx tg r2 idx : Nat} {v : Int32} (hr : ia_row P k pc = some (.ldc_w idx, nx, tg, r2, .int v)) (kk : ia_Sx P G k d bc bs nx ls (.int v :: st) h Post) : ia_Sx P G k d bc bs pc ls st h Post := by
  intro ok M hM p e R s m args below meth c lc H locs cells slots Q B hl hS hL hc hs' kq
  obtain ⟨hd0, ho0⟩ := ia_row_use ok hM hr
  obtain ⟨hd, rfl⟩ := ia_dec_use hd0 rfl
  have hw := ia_hw_use (show ia_hw (ia_mw M) (.constant (ia_my M).cls idx v) = true from ho0)
  have hMm := List.mem_of_getElem? hM
  exact lv_ldcw B.1 B.2.1 B.2.2.2.2.1 (ia_w ((ok.1.1 M hMm).1 _ hw) ((B.2.2.2.2.2.1.1 M hMm).2.1 _ hw)) hd (kk ok M hM p e R s m args below meth c lc H locs cells slots Q B hl hS hL hc hs' kq)
theorem ia_gets {nx tg r2 idx : Nat} {v : Value} (hr : ia_row P k pc = some (.getstatic idx, nx, tg, r2, v)) (kk : ia_Sx P G k d bc bs nx ls (v :: st) h Post) : ia_Sx P G k d bc bs pc ls st h Post := by
  intro ok M hM p e R s m args below meth c lc H locs cells slots Q B hl hS hL hc hs' kq
  obtain ⟨hd0, ho0⟩ := ia_row_use ok hM hr
  obtain ⟨hd, rfl⟩ := ia_dec_use hd0 rfl
  obtain ⟨z, hz, ho⟩ := List.any_eq_true.mp (show ((ia_Pz P).any fun z => decide (z.2.2.2 = v) && ia_hw (ia_mw M) (.fieldLink (ia_my M).cls idx z.1 z.2.1 z.2.2.1)) = true from ho0)
  obtain ⟨h1, h2⟩ := Bool.and_eq_true_iff.mp ho
  have h1 := of_decide_eq_true h1
  have hw := ia_hw_use h2
  have hMm := List.mem_of_getElem? hM
  have hZ := B.2.2.2.2.2.1.2.2.2.2.2.1 z hz
  rw [h1] at hZ
  exact va_gets B.1 B.2.1 hZ hS B.2.2.2.2.1 (ia_w ((ok.1.1 M hMm).1 _ hw) ((B.2.2.2.2.2.1.1 M hMm).2.1 _ hw)) (fun _ q => q) hd (kk ok M hM p e R s m args below meth c lc H locs cells slots Q B hl hS hL hc hs' kq)
/-- getfield -/
theorem ia_getf {nx ci kf idx a : Nat} {cst v : Value} {fs : List Value} (hr : ia_row P k pc = some (.getfield idx, nx, ci, kf, cst)) (ha : h.1 a = some (.inr (ci, fs))) (hv : fs[kf]? = some v) (kk : ia_Sx P G k d bc bs nx ls (v :: st) h Post) : ia_Sx P G k d bc bs pc ls (.ref a :: st) h Post := by
  intro ok M hM p e R s m args below meth c lc H locs cells slots Q B hl hS hL hc hs' kq
  obtain ⟨hd0, ho0⟩ := ia_row_use ok hM hr
  obtain ⟨hd, rfl⟩ := ia_dec_use hd0 rfl
  have hk := kk ok M hM p e R s m args below meth c lc H locs cells slots Q B hl hS hL hc hs' kq
  have hMm := List.mem_of_getElem? hM
  have hC := B.2.2.2.2.2.1
  have ho : (match (ia_Pc P)[ci]? with
      | some r => decide (kf < r.2.2) && ia_fl M idx (r.2.1 kf).1 (r.2.1 kf).2.1 (r.2.1 kf).2.2.1
      | none => false) = true := ho0
  split at ho
  next r hci =>
    obtain ⟨h1, h2⟩ := Bool.and_eq_true_iff.mp ho
    have h1 := of_decide_eq_true h1
    obtain ⟨ref, hlink, hsame⟩ := ia_fl_use h2
    obtain ⟨hSl, hfc, kC, hkC, hkind⟩ := hC.2.1.1 ci r hci
    obtain ⟨cf, kf', fi, f, hi, hsl⟩ := hSl kf h1
    have hts : ∀ w ∈ u_ws r.1 r.2.1 r.2.2, w.before args s = true := fun w hw => ia_w (ok.1.2 r (List.mem_of_getElem? hci) w hw) (hC.2.2.1 r (List.mem_of_getElem? hci) w hw)
    have hst := (u_facts hfc hkC (u_lays hts (fun _ q => q) h1) hi).1
    have hi2 : s.fieldFound? ref (r.2.1 kf).2.1 (r.2.1 kf).2.2.1 = some (cf, kf', fi, f) := by
      rcases hsame with rfl | hsame
      · exact hi
      · exact u_same (ia_w (args := args) ((ok.1.1 M hMm).1 _ hsame) ((hC.1 M hMm).2.1 _ hsame)) _ hi
    have hrd : ∃ cell : Cell, H[ia_ad G a]? = some cell ∧ cell.vm ≠ .unknown ∧ cell.slots[f.slot]? = some (ia_cv G v) := by
      have hy := hL.1 a _ ha
      unfold ia_at at hy
      split at hy
      next =>
        obtain ⟨r', e1, e2, e3⟩ := hy
        cases hci.symm.trans e1
        obtain ⟨cf2, k2, fi2, f2, cell, g1, g2, g3, g4, g5, g6⟩ := e3 kf v hv
        cases hi.symm.trans g1
        exact ⟨cell, g3, g4, g5⟩
      next =>
        obtain ⟨r', e1, e2, cell, q1, q2, q3, q4⟩ := hy
        cases hci.symm.trans e1
        refine ⟨cell, q1, (by rw [q3]; exact fun z => by cases z), ?_⟩
        rw [hsl, q4 kf h1]
        simp [vp_V, hv]
    obtain ⟨cell, c1, c2, c3⟩ := hrd
    rcases hlink with hlink | ⟨host, hlink⟩
    · exact W.getf B.1 B.2.1 B.2.2.2.2.1 (ia_w (args := args) ((ok.1.1 M hMm).1 _ hlink) ((hC.1 M hMm).2.1 _ hlink)) hi2 hst c1 c2 c3 rfl rfl hd hk
    · exact va_Wgetf B.1 B.2.1 B.2.2.2.2.1 (va_Nw.use rfl ((hC.1 M hMm).2.2 _ hlink)) hi2 hst c1 c2 c3 rfl rfl hd hk
  next => cases ho
/-- putfield -/
theorem ia_putf {nx ci kf idx a : Nat} {cst v : Value} {fs : List Value} {ts : List FieldType} {ty : FieldType} (hr : ia_row P k pc = some (.putfield idx, nx, ci, kf, cst)) (ha : h.1 a = some (.inr (ci, fs))) (h64 : 64 ≤ a) (hts : (ia_Pt P)[ci]? = some ts) (hty : ts[kf]? = some ty) (hn : narrow ty (ia_cv G v) = ia_cv G v) (hf : fits ty (ia_cv G v) = true) (kk : ia_Sx P G k d bc bs nx ls st (ia_up h.1 a (.inr (ci, fs.set kf v)), h.2) Post) : ia_Sx P G k d bc bs pc ls (v :: .ref a :: st) h Post := by
  intro ok M hM p e R s m args below meth c lc H locs cells slots Q B hl hS hL hc hs' kq
  obtain ⟨hd0, ho0⟩ := ia_row_use ok hM hr
  obtain ⟨hd, rfl⟩ := ia_dec_use hd0 rfl
  have hMm := List.mem_of_getElem? hM
  have hC := B.2.2.2.2.2.1
  have ho : (match (ia_Pc P)[ci]? with
      | some r => decide (kf < r.2.2) && (ia_fl M idx (r.2.1 kf).1 (r.2.1 kf).2.1 (r.2.1 kf).2.2.1 && (decide ((r.2.1 kf).2.2.2 = false) || (decide ((ia_my M).name = "<init>") && (decide ((r.2.1 kf).1 = (ia_my M).cls) && (ia_mw M).any (ia_fl1 M idx (r.2.1 kf).1 (r.2.1 kf).2.1 (r.2.1 kf).2.2.1)))))
      | none => false) = true := ho0
  split at ho
  next r hci =>
    obtain ⟨h1, ho⟩ := Bool.and_eq_true_iff.mp ho
    obtain ⟨h2, ho⟩ := Bool.and_eq_true_iff.mp ho
    have h1 := of_decide_eq_true h1
    obtain ⟨ts', t1, t2, t3, t4⟩ := ok.2.1 ci r hci
    cases hts.symm.trans t1
    have hpd := t3 kf ty hty
    obtain ⟨hSl, hfc, kC, hkC, hkind⟩ := hC.2.1.1 ci r hci
    obtain ⟨cf, kf', fi, f, hi, hsl⟩ := hSl kf h1
    have hw : ∀ w ∈ u_ws r.1 r.2.1 r.2.2, w.before args s = true := fun w hw => ia_w (ok.1.2 r (List.mem_of_getElem? hci) w hw) (hC.2.2.1 r (List.mem_of_getElem? hci) w hw)
    have hst := (u_facts hfc hkC (u_lays hw (fun _ q => q) h1) hi).1
    have hap := va_apart (own := r.1) hw (fun _ q => q) (fun j => ts.getD j .int) (fun j hj => by
      have hj2 : j < ts.length := by rw [t2]; exact hj
      have e9 : ts[j]? = some (ts.getD j .int) := by simp [List.getD, hj2]
      exact t3 j _ e9) t4 hC.2.1 hci
    have hy := hL.1 a _ ha
    unfold ia_at at hy
    rw [if_neg (Nat.not_lt.mpr h64)] at hy
    obtain ⟨r', e1, e2, cell, q1, q2, q3, q4⟩ := hy
    cases hci.symm.trans e1
    have hlt : kf < (fs.map (ia_cv G)).length := by rw [List.length_map, e2]; exact h1
    have fin : ∀ H1 : Heap, H1[ia_ad G a]? = some (cell.setSlot f.slot (ia_cv G v)) → H1.size = H.size → (∀ q, q ≠ ia_ad G a → H1[q]? = H[q]?) → W p G.1 e R s m args below meth c H1 (locs ++ [⟨ia_ad G a, f.slot⟩]) cells slots Q (F0 m (pc + 3) lc (st.map (ia_cv G))) := by
      intro H1 g1 g2 g3
      rw [hsl] at g1
      have hsg : ia_sg P G a (.inr (ci, fs.set kf v)) H1 := by
        refine ⟨r, hci, by rw [List.length_set]; exact e2, ?_⟩
        rw [List.map_set]
        exact t_OB.to (V := updV (vp_V (fs.map (ia_cv G))) kf (ia_cv G v)) ⟨_, g1, q2, q3, t_set q4 hap h1 (ia_cv G v)⟩ (fun j _ => vp_updV_set hlt (ia_cv G v) j)
      exact kk ok M hM p e R s m args below meth c lc H1 _ cells slots Q B hl (hS.put g2 g3 (ia_A_hi h64)) (hL.set h64 ha g2 g3 hsg) hc hs' kq
    have hslot : f.slot < cell.slots.size := by rw [hsl]; exact k2_hasslot (q4 kf h1)
    rcases Bool.or_eq_true_iff.mp ho with hnf | hfin
    · have hnf := of_decide_eq_true hnf
      obtain ⟨ref, hlink, hsame⟩ := ia_fl_use h2
      have hi2 : s.fieldFound? ref (r.2.1 kf).2.1 (r.2.1 kf).2.2.1 = some (cf, kf', fi, f) := by
        rcases hsame with rfl | hsame
        · exact hi
        · exact u_same (ia_w (args := args) ((ok.1.1 M hMm).1 _ hsame) ((hC.1 M hMm).2.1 _ hsame)) _ hi
      have hlay := hw _ (u_in_lay h1)
      unfold u_lay at hlay
      rw [if_neg (by rw [hnf]; decide)] at hlay
      have h6 := u_store hfc hkC hkind hlay hi hpd hn hf
      rcases hlink with hlink | ⟨host, hlink⟩
      · exact W.putK B.1 B.2.1 (f := f) ⟨B.2.2.2.2.1, ia_w (args := args) ((ok.1.1 M hMm).1 _ hlink) ((hC.1 M hMm).2.1 _ hlink), ⟨_, _, _, hi2⟩, hst⟩ (by rw [q2]; exact h6) q1 q3 hslot rfl rfl hd fin
      · exact va_WputK B.1 B.2.1 (f := f) B.2.2.2.2.1 (va_Nw.use rfl ((hC.1 M hMm).2.2 _ hlink)) hi2 hst (by rw [q2]; exact h6) q1 q3 hslot rfl rfl hd fin
    · obtain ⟨hin, hfin⟩ := Bool.and_eq_true_iff.mp hfin
      obtain ⟨hdecl, hfin⟩ := Bool.and_eq_true_iff.mp hfin
      have hin := of_decide_eq_true hin
      have hdecl := of_decide_eq_true hdecl
      have hfl : ia_fl M idx (r.2.1 kf).1 (r.2.1 kf).2.1 (r.2.1 kf).2.2.1 = true := h2
      obtain ⟨w, hwm, hfin⟩ := List.any_eq_true.mp hfin
      unfold ia_fl1 at hfin
      split at hfin
      next a2 i2 ref n2 d2 =>
        obtain ⟨z1, hA⟩ := Bool.and_eq_true_iff.mp hfin
        obtain ⟨z2, hB⟩ := Bool.and_eq_true_iff.mp hA
        obtain ⟨z3, hD⟩ := Bool.and_eq_true_iff.mp hB
        obtain ⟨z4, hE⟩ := Bool.and_eq_true_iff.mp hD
        cases of_decide_eq_true z1; cases of_decide_eq_true z2; cases of_decide_eq_true z3; cases of_decide_eq_true z4
        have hi2 : s.fieldFound? ref (r.2.1 kf).2.1 (r.2.1 kf).2.2.1 = some (cf, kf', fi, f) := by
          rcases Bool.or_eq_true_iff.mp hE with hs1 | hs1
          · rw [of_decide_eq_true hs1]; exact hi
          · exact u_same (ia_w (args := args) ((ok.1.1 M hMm).1 _ (ia_hw_use hs1)) ((hC.1 M hMm).2.1 _ (ia_hw_use hs1))) _ hi
        by_cases hff : (r.2.1 kf).2.2.2 = true
        · have hlay := hw _ (u_in_lay h1)
          unfold u_lay at hlay
          rw [if_pos hff] at hlay
          have hcf : m.cls = cf := by
            obtain ⟨_, _, c', _, _, _, -, -, hf', -, -, -, hown2, -⟩ := Cond.laysFinal_spec hlay
            have e3 : c' = cf := by have := hi.symm.trans hf'; simp at this; exact this.1.symm
            rw [hdecl] at hown2
            rw [← e3]; exact Option.some.inj (B.2.2.2.2.1.symm.trans hown2)
          have h6 := u_fits hfc hkC hkind (Or.inr hlay) hi hpd hn hf
          exact W.putFinK B.1 B.2.1 B.2.2.2.2.1 (ia_w (args := args) ((ok.1.1 M hMm).1 _ hwm) ((hC.1 M hMm).2.1 _ hwm)) hi2 hst hcf (B.2.2.2.1.trans hin) (by rw [q2]; exact h6) q1 q3 hslot rfl rfl hd fin
        · have hlay := hw _ (u_in_lay h1)
          unfold u_lay at hlay
          rw [if_neg hff] at hlay
          have h6 := u_store hfc hkC hkind hlay hi hpd hn hf
          exact W.putK B.1 B.2.1 (f := f) ⟨B.2.2.2.2.1, ia_w (args := args) ((ok.1.1 M hMm).1 _ hwm) ((hC.1 M hMm).2.1 _ hwm), ⟨_, _, _, hi2⟩, hst⟩ (by rw [q2]; exact h6) q1 q3 hslot rfl rfl hd fin
      next => cases hfin
  next => cases ho
/-- new -/
theorem ia_new {nx ci r2 idx : Nat} {cst : Value} {r : vw_C} {ts : List FieldType} {bc' bs' : Nat} (hr : ia_row P k pc = some (.new idx, nx, ci, r2, cst)) (hci : (ia_Pc P)[ci]? = some r) (hts : (ia_Pt P)[ci]? = some ts) (hbc : bc' + 1 ≤ bc) (hbs : bs' + r.2.2 ≤ bs) (kk : ia_Sx P G k d bc' bs' nx ls (.ref h.2 :: st) (ia_up h.1 h.2 (.inr (ci, ts.map defaultValue)), h.2 + 1) Post) : ia_Sx P G k d bc bs pc ls st h Post := by
  intro ok M hM p e R s m args below meth c lc H locs cells slots Q B hl hS hL hc hs' kq
  obtain ⟨hd0, ho0⟩ := ia_row_use ok hM hr
  obtain ⟨hd, rfl⟩ := ia_dec_use hd0 rfl
  have hMm := List.mem_of_getElem? hM
  have hC := B.2.2.2.2.2.1
  have ho : (match (ia_Pc P)[ci]? with
      | some r => ia_hw (ia_mw M) (.classLink (ia_my M).cls idx r.1) && (ia_hw (ia_mw M) (.instantiable r.1 r.2.2) && ia_hw (ia_mw M) (.initialized r.1))
      | none => false) = true := ho0
  rw [hci] at ho
  obtain ⟨h1, ho⟩ := Bool.and_eq_true_iff.mp ho
  obtain ⟨h2, h3⟩ := Bool.and_eq_true_iff.mp ho
  have wd : ∀ w : Cond, ia_hw (ia_mw M) w = true → w.before args s = true := fun w hw => ia_w ((ok.1.1 M hMm).1 _ (ia_hw_use hw)) ((hC.1 M hMm).2.1 _ (ia_hw_use hw))
  obtain ⟨ts', t1, t2, t3, t4⟩ := ok.2.1 ci r hci
  cases hts.symm.trans t1
  have hKn := hC.2.1.1 ci r hci
  have hw : ∀ w ∈ u_ws r.1 r.2.1 r.2.2, w.before args s = true := fun w hw => ia_w (ok.1.2 r (List.mem_of_getElem? hci) w hw) (hC.2.2.1 r (List.mem_of_getElem? hci) w hw)
  refine W.newcK B.1 B.2.1 B.2.2.2.2.1 (wd _ h1) (wd _ h2) (wd _ h3) rfl hd (by omega) (by omega) hKn.2.1 rfl fun H1 kC hkC e1 z1 o1 => ?_
  have had := hL.next
  have hdv : ∀ t : FieldType, ia_cv G (defaultValue t) = defaultValue t := fun t => by cases t <;> rfl
  have hsg : ia_sg P G h.2 (.inr (ci, ts.map defaultValue)) H1 := by
    refine ⟨r, hci, by rw [List.length_map]; exact t2, ?_⟩
    rw [had]
    have hb := u_born (fun j => ts.getD j .int) hw (fun _ q => q) hKn hkC e1 (fun j hj => by
      have hj2 : j < ts.length := by rw [t2]; exact hj
      have e9 : ts[j]? = some (ts.getD j .int) := by simp [List.getD, hj2]
      exact t3 j _ e9)
    refine hb.to (fun j hj => ?_)
    have hj2 : j < ts.length := by rw [t2]; exact hj
    simp [vp_V, List.getD, hj2, hdv]
  have hz := hL.push z1 o1 (Nat.le_trans hC.2.2.2.2.2.2 hS.1) hsg
  have k9 := kk ok M hM p e R s m args below meth c lc H1 locs (cells + 1) (slots + r.2.2) Q B hl ⟨Nat.le_trans hS.1 (by omega), fun x g1 g2 => (o1 x (Nat.lt_of_lt_of_le g1 hS.1)).trans (hS.2.1 x g1 g2), hS.2.2⟩ hz (by omega) (by omega) kq
  rw [← had]
  exact k9
/-- newarray -/
theorem ia_newa {nx tg r2 N bc' bs' : Nat} {cst : Value} {t : ArrayType} {n : Int32} {ty : FieldType} {dv : Value} (hr : ia_row P k pc = some (.newarray t, nx, tg, r2, cst)) (hty : newarray.typeOf t = ty) (hdv : defaultValue ty = dv) (hn : ¬ n < 0) (hN : n.toNatClampNeg = N) (hb : N * componentBytes ty ≤ 536870912) (hbc : bc' + 1 ≤ bc) (hbs : bs' + N ≤ bs) (kk : ia_Sx P G k d bc' bs' nx ls (.ref h.2 :: st) (ia_up h.1 h.2 (.inl (ty, N, fun _ => dv)), h.2 + 1) Post) : ia_Sx P G k d bc bs pc ls (.int n :: st) h Post := by
  intro ok M hM p e R s m args below meth c lc H locs cells slots Q B hl hS hL hc hs' kq
  obtain ⟨hd0, ho0⟩ := ia_row_use ok hM hr
  obtain ⟨hd, rfl⟩ := ia_dec_use hd0 rfl
  subst hty
  subst hdv
  have hMm := List.mem_of_getElem? hM
  have hC := B.2.2.2.2.2.1
  obtain ⟨h1, h2⟩ := Bool.and_eq_true_iff.mp (show (ia_hw (ia_mw M) (.arrayClass (newarray.typeOf t)) && decide (newarray.typeOf t ∈ ia_Py P)) = true from ho0)
  have h2 := of_decide_eq_true h2
  have hwd := ia_w (args := args) ((ok.1.1 M hMm).1 _ (ia_hw_use h1)) ((hC.1 M hMm).2.1 _ (ia_hw_use h1))
  refine va_newaK B.1 B.2.1 hwd rfl hd rfl hn hN hb (by omega) (by omega) rfl fun H1 cA e1 z1 o1 hAr hNm => ?_
  have had := hL.next
  obtain ⟨t0, ht0⟩ := List.getElem?_of_mem h2
  have hra := (hC.2.1.2 t0 (G.2.2.1 (newarray.typeOf t), newarray.typeOf t) (by rw [List.getElem?_map, ht0]; rfl)).2
  have hcA : cA = G.2.2.1 (newarray.typeOf t) := by
    have hra2 : s.vm.findClass ("[" ++ (newarray.typeOf t).toString) = some (G.2.2.1 (newarray.typeOf t)) := by cases t <;> exact hra
    exact Option.some.inj (hNm.symm.trans hra2)
  subst hcA
  have hdv2 : ia_cv G (defaultValue (newarray.typeOf t)) = defaultValue (newarray.typeOf t) := by cases t <;> rfl
  have hsg : ia_sg P G h.2 (.inl (newarray.typeOf t, N, fun _ => defaultValue (newarray.typeOf t))) H1 := by
    refine ⟨h2, ?_⟩
    rw [had, e1]
    simp only [hdv2]
  have hz := hL.push z1 o1 (Nat.le_trans hC.2.2.2.2.2.2 hS.1) hsg
  have k9 := kk ok M hM p e R s m args below meth c lc H1 locs (cells + 1) (slots + N) Q B hl ⟨Nat.le_trans hS.1 (by omega), fun x g1 g2 => (o1 x (Nat.lt_of_lt_of_le g1 hS.1)).trans (hS.2.1 x g1 g2), hS.2.2⟩ hz (by omega) (by omega) kq
  rw [← had]
  exact k9
/-- anewarray -/
theorem ia_newq {nx tg r2 N idx bc' bs' : Nat} {cst : Value} {n : Int32} {C : String} (hr : ia_row P k pc = some (.anewarray idx, nx, tg, r2, cst)) (htg : (ia_Py P)[tg]? = some (.object C)) (hn : ¬ n < 0) (hN : n.toNatClampNeg = N) (hb : N * 4 ≤ 536870912) (hbc : bc' + 1 ≤ bc) (hbs : bs' + N ≤ bs) (kk : ia_Sx P G k d bc' bs' nx ls (.ref h.2 :: st) (ia_up h.1 h.2 (.inl (.object C, N, fun _ => .null)), h.2 + 1) Post) : ia_Sx P G k d bc bs pc ls (.int n :: st) h Post := by
  intro ok M hM p e R s m args below meth c lc H locs cells slots Q B hl hS hL hc hs' kq
  obtain ⟨hd0, ho0⟩ := ia_row_use ok hM hr
  obtain ⟨hd, rfl⟩ := ia_dec_use hd0 rfl
  subst hN
  have hMm := List.mem_of_getElem? hM
  have hC := B.2.2.2.2.2.1
  have ho : (match (ia_Py P)[tg]? with
      | some (.object C) => ia_hw (ia_mw M) (.classLink (ia_my M).cls idx C) && decide (C ∈ ia_Po P)
      | _ => false) = true := ho0
  rw [htg] at ho
  obtain ⟨h1, h2⟩ := Bool.and_eq_true_iff.mp ho
  have h2 := of_decide_eq_true h2
  have hwd := ia_w (args := args) ((ok.1.1 M hMm).1 _ (ia_hw_use h1)) ((hC.1 M hMm).2.1 _ (ia_hw_use h1))
  refine W.anew B.1 B.2.1 B.2.2.2.2.1 hwd (va_AO.use (hC.2.2.2.1 C h2)) rfl hd rfl hn hb (by omega) (by omega) fun cA kA comp f1 f2 f3 f4 => ?_
  generalize hH1 : H.push ({ cls := cA, slots := Array.replicate n.toNatClampNeg .null, vm := .none } : Cell) = H1
  have z1 : H1.size = H.size + 1 := by rw [← hH1, Array.size_push]
  have e1 : H1[H.size]? = some (arrV cA n.toNatClampNeg (fun _ => .null)) := by rw [← hH1, Array.getElem?_push_size, ← arrV_new]
  have o1 : ∀ q : Nat, q < H.size → H1[q]? = H[q]? := fun q hq => by rw [← hH1, Array.getElem?_push, if_neg (Nat.ne_of_lt hq)]
  have had := hL.next
  have hra := (hC.2.1.2 tg (G.2.2.1 (.object C), .object C) (by rw [List.getElem?_map, htg]; rfl)).2
  obtain ⟨kA', comp', r1, r2', r3, r4⟩ := hra
  have hcA : cA = G.2.2.1 (.object C) := Option.some.inj (f1.symm.trans r4)
  subst hcA
  have hsg : ia_sg P G h.2 (.inl (.object C, n.toNatClampNeg, fun _ => .null)) H1 := by
    refine ⟨List.mem_of_getElem? htg, ?_⟩
    rw [had, e1]
    rfl
  have hz := hL.push z1 o1 (Nat.le_trans hC.2.2.2.2.2.2 hS.1) hsg
  have k9 := kk ok M hM p e R s m args below meth c lc H1 locs (cells + 1) (slots + n.toNatClampNeg) Q B hl ⟨Nat.le_trans hS.1 (by omega), fun x g1 g2 => (o1 x (Nat.lt_of_lt_of_le g1 hS.1)).trans (hS.2.1 x g1 g2), hS.2.2⟩ hz (by omega) (by omega) kq
  rw [← had]
  exact k9
/-- arraylength -/
theorem ia_alen {nx tg r2 a n : Nat} {cst : Value} {ty : FieldType} {f : Nat → Value} (hr : ia_row P k pc = some (.arraylength, nx, tg, r2, cst)) (ha : h.1 a = some (.inl (ty, n, f))) (kk : ia_Sx P G k d bc bs nx ls (.int (Int32.ofNat n) :: st) h Post) : ia_Sx P G k d bc bs pc ls (.ref a :: st) h Post := by
  intro ok M hM p e R s m args below meth c lc H locs cells slots Q B hl hS hL hc hs' kq
  obtain ⟨hd0, -⟩ := ia_row_use ok hM hr
  obtain ⟨hd, rfl⟩ := ia_dec_use hd0 rfl
  obtain ⟨cell, c1, c2, c3, c4, c5, c6⟩ := hL.arr B.2.2.2.2.2.1.2.1 ha
  exact W.alen B.1 B.2.1 c1 c2 c5 rfl rfl hd (kk ok M hM p e R s m args below meth c lc H locs cells slots Q B hl hS hL hc hs' kq)
/-- loads -/
theorem ia_in {n : Nat} {i : Int32} {cell : Cell} (hin : vp_in i n) (h : n ≤ cell.slots.size) : ¬ (i < 0 ∨ cell.slots.size ≤ i.toNatClampNeg) := fun z => hin (z.imp id fun q => Nat.le_trans h q)
theorem ia_in2 {n : Nat} {i : Int32} (hin : vp_in i n) : i.toNatClampNeg < n := Nat.not_le.mp fun q => hin (Or.inr q)
theorem ia_iald {nx tg r2 a n : Nat} {cst v : Value} {f : Nat → Value} {i : Int32} (hr : ia_row P k pc = some (.iaload, nx, tg, r2, cst)) (ha : h.1 a = some (.inl (.int, n, f))) (hin : vp_in i n) (hv : f i.toNatClampNeg = v) (kk : ia_Sx P G k d bc bs nx ls (v :: st) h Post) : ia_Sx P G k d bc bs pc ls (.int i :: .ref a :: st) h Post := by
  intro ok M hM p e R s m args below meth c lc H locs cells slots Q B hl hS hL hc hs' kq
  obtain ⟨hd0, -⟩ := ia_row_use ok hM hr
  obtain ⟨hd, rfl⟩ := ia_dec_use hd0 rfl
  obtain ⟨cell, c1, c2, c3, c4, c5, c6⟩ := hL.arr B.2.2.2.2.2.1.2.1 ha
  subst hv
  exact W.iald B.1 B.2.1 c1 c2 c3 (ia_in hin c4) (c6 _ (ia_in2 hin)) rfl rfl hd (kk ok M hM p e R s m args below meth c lc H locs cells slots Q B hl hS hL hc hs' kq)
theorem ia_lald {nx tg r2 a n : Nat} {cst v : Value} {f : Nat → Value} {i : Int32} (hr : ia_row P k pc = some (.laload, nx, tg, r2, cst)) (ha : h.1 a = some (.inl (.long, n, f))) (hin : vp_in i n) (hv : f i.toNatClampNeg = v) (kk : ia_Sx P G k d bc bs nx ls (v :: st) h Post) : ia_Sx P G k d bc bs pc ls (.int i :: .ref a :: st) h Post := by
  intro ok M hM p e R s m args below meth c lc H locs cells slots Q B hl hS hL hc hs' kq
  obtain ⟨hd0, -⟩ := ia_row_use ok hM hr
  obtain ⟨hd, rfl⟩ := ia_dec_use hd0 rfl
  obtain ⟨cell, c1, c2, c3, c4, c5, c6⟩ := hL.arr B.2.2.2.2.2.1.2.1 ha
  subst hv
  exact W.lald B.1 B.2.1 c1 c2 c3 (ia_in hin c4) (c6 _ (ia_in2 hin)) rfl rfl hd (kk ok M hM p e R s m args below meth c lc H locs cells slots Q B hl hS hL hc hs' kq)
theorem ia_bald {nx tg r2 a n : Nat} {cst v : Value} {f : Nat → Value} {i : Int32} (hr : ia_row P k pc = some (.baload, nx, tg, r2, cst)) (ha : h.1 a = some (.inl (.byte, n, f))) (hin : vp_in i n) (hv : f i.toNatClampNeg = v) (kk : ia_Sx P G k d bc bs nx ls (v :: st) h Post) : ia_Sx P G k d bc bs pc ls (.int i :: .ref a :: st) h Post := by
  intro ok M hM p e R s m args below meth c lc H locs cells slots Q B hl hS hL hc hs' kq
  obtain ⟨hd0, -⟩ := ia_row_use ok hM hr
  obtain ⟨hd, rfl⟩ := ia_dec_use hd0 rfl
  obtain ⟨cell, c1, c2, c3, c4, c5, c6⟩ := hL.arr B.2.2.2.2.2.1.2.1 ha
  subst hv
  exact W.bald B.1 B.2.1 c1 c2 c3 (ia_in hin c4) (c6 _ (ia_in2 hin)) rfl rfl hd (kk ok M hM p e R s m args below meth c lc H locs cells slots Q B hl hS hL hc hs' kq)
theorem ia_zald {nx tg r2 a n : Nat} {cst v : Value} {f : Nat → Value} {i : Int32} (hr : ia_row P k pc = some (.baload, nx, tg, r2, cst)) (ha : h.1 a = some (.inl (.boolean, n, f))) (hin : vp_in i n) (hv : f i.toNatClampNeg = v) (kk : ia_Sx P G k d bc bs nx ls (v :: st) h Post) : ia_Sx P G k d bc bs pc ls (.int i :: .ref a :: st) h Post := by
  intro ok M hM p e R s m args below meth c lc H locs cells slots Q B hl hS hL hc hs' kq
  obtain ⟨hd0, -⟩ := ia_row_use ok hM hr
  obtain ⟨hd, rfl⟩ := ia_dec_use hd0 rfl
  obtain ⟨cell, c1, c2, c3, c4, c5, c6⟩ := hL.arr B.2.2.2.2.2.1.2.1 ha
  subst hv
  exact W.zald B.1 B.2.1 c1 c2 c3 (ia_in hin c4) (c6 _ (ia_in2 hin)) rfl rfl hd (kk ok M hM p e R s m args below meth c lc H locs cells slots Q B hl hS hL hc hs' kq)
theorem ia_aald {nx tg r2 a n : Nat} {cst v : Value} {C : String} {f : Nat → Value} {i : Int32} (hr : ia_row P k pc = some (.aaload, nx, tg, r2, cst)) (ha : h.1 a = some (.inl (.object C, n, f))) (hin : vp_in i n) (hv : f i.toNatClampNeg = v) (kk : ia_Sx P G k d bc bs nx ls (v :: st) h Post) : ia_Sx P G k d bc bs pc ls (.int i :: .ref a :: st) h Post := by
  intro ok M hM p e R s m args below meth c lc H locs cells slots Q B hl hS hL hc hs' kq
  obtain ⟨hd0, -⟩ := ia_row_use ok hM hr
  obtain ⟨hd, rfl⟩ := ia_dec_use hd0 rfl
  obtain ⟨cell, c1, c2, c3, c4, c5, c6⟩ := hL.arr B.2.2.2.2.2.1.2.1 ha
  subst hv
  exact W.aald B.1 B.2.1 c1 c2 rfl c3 (ia_in hin c4) (c6 _ (ia_in2 hin)) rfl rfl hd (kk ok M hM p e R s m args below meth c lc H locs cells slots Q B hl hS hL hc hs' kq)
/-- stores -/
theorem ia_arrset {s : State} {H H1 : Heap} {a n j : Nat} {ty : FieldType} {f : Nat → Value} {x : Value} (hL : ia_L P G s h H) (h64 : 64 ≤ a) (ha : h.1 a = some (.inl (ty, n, f))) : ∃ cell : Cell, cell = arrV (G.2.2.1 ty) n (fun j => ia_cv G (f j)) ∧ H[ia_ad G a]? = some cell ∧ ty ∈ ia_Py P ∧ (H1[ia_ad G a]? = some (cell.setSlot j (ia_cv G x)) → H1.size = H.size → (∀ q, q ≠ ia_ad G a → H1[q]? = H[q]?) → ia_L P G s (ia_up h.1 a (.inl (ty, n, updV f j x)), h.2) H1) := by
  have hy := hL.1 a _ ha
  unfold ia_at at hy
  rw [if_neg (Nat.not_lt.mpr h64)] at hy
  obtain ⟨hm, hc⟩ := hy
  refine ⟨_, rfl, hc, hm, fun g1 g2 g3 => hL.set h64 ha g2 g3 ⟨hm, ?_⟩⟩
  rw [g1, arrV_store]
  congr 2
  funext q
  by_cases hq : q = j
  · subst hq; simp [updV]
  · simp [updV, hq]
theorem ia_iast {nx tg r2 a n : Nat} {cst : Value} {f : Nat → Value} {i x : Int32} (hr : ia_row P k pc = some (.iastore, nx, tg, r2, cst)) (ha : h.1 a = some (.inl (.int, n, f))) (h64 : 64 ≤ a) (hin : vp_in i n) (kk : ia_Sx P G k d bc bs nx ls st (ia_up h.1 a (.inl (.int, n, updV f i.toNatClampNeg (.int x))), h.2) Post) : ia_Sx P G k d bc bs pc ls (.int x :: .int i :: .ref a :: st) h Post := by
  intro ok M hM p e R s m args below meth c lc H locs cells slots Q B hl hS hL hc hs' kq
  obtain ⟨hd0, -⟩ := ia_row_use ok hM hr
  obtain ⟨hd, rfl⟩ := ia_dec_use hd0 rfl
  obtain ⟨cell, c1, c2, c3, c4, c5, c6⟩ := hL.arr B.2.2.2.2.2.1.2.1 ha
  refine W.iast B.1 B.2.1 c1 c2 c3 (ia_in hin c4) rfl rfl hd (fun H1 g1 g2 g3 => ?_)
  obtain ⟨cell', e0, e1, -, e2⟩ := ia_arrset (H1 := H1) (j := i.toNatClampNeg) (x := .int x) hL h64 ha
  cases e1.symm.trans c1
  exact kk ok M hM p e R s m args below meth c lc H1 _ cells slots Q B hl (hS.put g2 g3 (ia_A_hi h64)) (e2 g1 g2 g3) hc hs' kq
theorem ia_last {nx tg r2 a n : Nat} {cst : Value} {f : Nat → Value} {i : Int32} {x : Int64} (hr : ia_row P k pc = some (.lastore, nx, tg, r2, cst)) (ha : h.1 a = some (.inl (.long, n, f))) (h64 : 64 ≤ a) (hin : vp_in i n) (kk : ia_Sx P G k d bc bs nx ls st (ia_up h.1 a (.inl (.long, n, updV f i.toNatClampNeg (.long x))), h.2) Post) : ia_Sx P G k d bc bs pc ls (.long x :: .int i :: .ref a :: st) h Post := by
  intro ok M hM p e R s m args below meth c lc H locs cells slots Q B hl hS hL hc hs' kq
  obtain ⟨hd0, -⟩ := ia_row_use ok hM hr
  obtain ⟨hd, rfl⟩ := ia_dec_use hd0 rfl
  obtain ⟨cell, c1, c2, c3, c4, c5, c6⟩ := hL.arr B.2.2.2.2.2.1.2.1 ha
  refine W.last B.1 B.2.1 c1 c2 c3 (ia_in hin c4) rfl rfl hd (fun H1 g1 g2 g3 => ?_)
  obtain ⟨cell', e0, e1, -, e2⟩ := ia_arrset (H1 := H1) (j := i.toNatClampNeg) (x := .long x) hL h64 ha
  cases e1.symm.trans c1
  exact kk ok M hM p e R s m args below meth c lc H1 _ cells slots Q B hl (hS.put g2 g3 (ia_A_hi h64)) (e2 g1 g2 g3) hc hs' kq
theorem ia_bast {nx tg r2 a n : Nat} {cst y : Value} {f : Nat → Value} {i x : Int32} (hr : ia_row P k pc = some (.bastore, nx, tg, r2, cst)) (ha : h.1 a = some (.inl (.byte, n, f))) (h64 : 64 ≤ a) (hin : vp_in i n) (hy : narrow .byte (.int x) = y) (hy2 : ia_cv G y = y) (kk : ia_Sx P G k d bc bs nx ls st (ia_up h.1 a (.inl (.byte, n, updV f i.toNatClampNeg y)), h.2) Post) : ia_Sx P G k d bc bs pc ls (.int x :: .int i :: .ref a :: st) h Post := by
  intro ok M hM p e R s m args below meth c lc H locs cells slots Q B hl hS hL hc hs' kq
  obtain ⟨hd0, -⟩ := ia_row_use ok hM hr
  obtain ⟨hd, rfl⟩ := ia_dec_use hd0 rfl
  obtain ⟨cell, c1, c2, c3, c4, c5, c6⟩ := hL.arr B.2.2.2.2.2.1.2.1 ha
  refine W.bast B.1 B.2.1 c1 c2 c3 (ia_in hin c4) rfl rfl hd (fun H1 g1 g2 g3 => ?_)
  obtain ⟨cell', e0, e1, -, e2⟩ := ia_arrset (H1 := H1) (j := i.toNatClampNeg) (x := y) hL h64 ha
  cases e1.symm.trans c1
  rw [hy, ← hy2] at g1
  exact kk ok M hM p e R s m args below meth c lc H1 _ cells slots Q B hl (hS.put g2 g3 (ia_A_hi h64)) (e2 g1 g2 g3) hc hs' kq
theorem ia_zast {nx tg r2 a n : Nat} {cst y : Value} {f : Nat → Value} {i x : Int32} (hr : ia_row P k pc = some (.bastore, nx, tg, r2, cst)) (ha : h.1 a = some (.inl (.boolean, n, f))) (h64 : 64 ≤ a) (hin : vp_in i n) (hy : narrow .boolean (.int x) = y) (hy2 : ia_cv G y = y) (kk : ia_Sx P G k d bc bs nx ls st (ia_up h.1 a (.inl (.boolean, n, updV f i.toNatClampNeg y)), h.2) Post) : ia_Sx P G k d bc bs pc ls (.int x :: .int i :: .ref a :: st) h Post := by
  intro ok M hM p e R s m args below meth c lc H locs cells slots Q B hl hS hL hc hs' kq
  obtain ⟨hd0, -⟩ := ia_row_use ok hM hr
  obtain ⟨hd, rfl⟩ := ia_dec_use hd0 rfl
  obtain ⟨cell, c1, c2, c3, c4, c5, c6⟩ := hL.arr B.2.2.2.2.2.1.2.1 ha
  refine W.zast B.1 B.2.1 c1 c2 c3 (ia_in hin c4) rfl rfl hd (fun H1 g1 g2 g3 => ?_)
  obtain ⟨cell', e0, e1, -, e2⟩ := ia_arrset (H1 := H1) (j := i.toNatClampNeg) (x := y) hL h64 ha
  cases e1.symm.trans c1
  rw [hy, ← hy2] at g1
  exact kk ok M hM p e R s m args below meth c lc H1 _ cells slots Q B hl (hS.put g2 g3 (ia_A_hi h64)) (e2 g1 g2 g3) hc hs' kq
/-- aastore of an object of the array's own class -/
theorem ia_aast {nx tg r2 a b n ci : Nat} {cst : Value} {f : Nat → Value} {i : Int32} {C : String} {fs : List Value} {r : vw_C} (hr : ia_row P k pc = some (.aastore, nx, tg, r2, cst)) (ha : h.1 a = some (.inl (.object C, n, f))) (h64 : 64 ≤ a) (hb : h.1 b = some (.inr (ci, fs))) (hci : (ia_Pc P)[ci]? = some r) (hrC : r.1 = C) (hin : vp_in i n) (kk : ia_Sx P G k d bc bs nx ls st (ia_up h.1 a (.inl (.object C, n, updV f i.toNatClampNeg (.ref b))), h.2) Post) : ia_Sx P G k d bc bs pc ls (.ref b :: .int i :: .ref a :: st) h Post := by
  intro ok M hM p e R s m args below meth c lc H locs cells slots Q B hl hS hL hc hs' kq
  obtain ⟨hd0, -⟩ := ia_row_use ok hM hr
  obtain ⟨hd, rfl⟩ := ia_dec_use hd0 rfl
  subst hrC
  have hK := B.2.2.2.2.2.1.2.1
  obtain ⟨cell', e0, e1, em, -⟩ := ia_arrset (H1 := H) (j := i.toNatClampNeg) (x := .ref b) hL h64 ha
  obtain ⟨t0, ht0⟩ := List.getElem?_of_mem em
  obtain ⟨kA, comp, w1, w2, w3, w4⟩ := (hK.2 t0 (G.2.2.1 (.object r.1), .object r.1) (by rw [List.getElem?_map, ht0]; rfl)).2
  obtain ⟨r', cellB, g1, g2, g3, g4⟩ := hL.obj hK hb
  cases hci.symm.trans g1
  obtain ⟨kC, hkC, -⟩ := Vm.findClass_spec w3
  cases w3.symm.trans g4
  have hstB : ∀ q, cellB.vm ≠ .statics q := fun q z => by rw [z] at g3; cases g3
  refine W.aast B.1 B.2.1 e1 (by rw [e0]; exact fun q z => by cases z) (by rw [e0]; exact fun z => by cases z) (k := kA) (by rw [e0]; exact w1) w2 rfl hkC ⟨fun z => hin (Or.inl z), by rw [e0, arrV_size]; exact ia_in2 hin⟩ g2 hstB hkC (va_asg _ _) rfl rfl hd (fun H1 z1 z2 z3 => ?_)
  obtain ⟨cell2, e02, e12, -, e22⟩ := ia_arrset (H1 := H1) (j := i.toNatClampNeg) (x := .ref b) hL h64 ha
  cases e12.symm.trans e1
  exact kk ok M hM p e R s m args below meth c lc H1 _ cells slots Q B hl (hS.put z2 z3 (ia_A_hi h64)) (e22 z1 z2 z3) hc hs' kq
/-- checkcast to byte[] -/
theorem ia_cast {nx tg r2 idx a n : Nat} {cst : Value} {f : Nat → Value} (hr : ia_row P k pc = some (.checkcast idx, nx, tg, r2, cst)) (ha : h.1 a = some (.inl (.byte, n, f))) (h64 : 64 ≤ a) (kk : ia_Sx P G k d bc bs nx ls (.ref a :: st) h Post) : ia_Sx P G k d bc bs pc ls (.ref a :: st) h Post := by
  intro ok M hM p e R s m args below meth c lc H locs cells slots Q B hl hS hL hc hs' kq
  obtain ⟨hd0, ho0⟩ := ia_row_use ok hM hr
  obtain ⟨hd, rfl⟩ := ia_dec_use hd0 rfl
  have hMm := List.mem_of_getElem? hM
  have hC := B.2.2.2.2.2.1
  have hw := ia_hw_use (show ia_hw (ia_mw M) (.classLink (ia_my M).cls idx "[B") = true from ho0)
  have hwd := ia_w (args := args) ((ok.1.1 M hMm).1 _ hw) ((hC.1 M hMm).2.1 _ hw)
  obtain ⟨cell', e0, e1, em, -⟩ := ia_arrset (H1 := H) (j := 0) (x := .null) hL h64 ha
  obtain ⟨t0, ht0⟩ := List.getElem?_of_mem em
  have hnm : s.vm.findClass "[B" = some (G.2.2.1 .byte) := (hC.2.1.2 t0 (G.2.2.1 .byte, .byte) (by rw [List.getElem?_map, ht0]; rfl)).2
  have k9 := kk ok M hM p e R s m args below meth c lc H locs cells slots Q B hl hS hL hc hs' kq
  intro T hT X
  obtain ⟨vm', X', st'⟩ := X.checkcastYes B.1 B.2.2.2.2.1 hwd (by rw [hT]; exact e1) (by rw [e0]; rfl) hnm (by rw [e0]; exact va_asg _ _) (g := F0 m pc lc (.ref (ia_ad G a) :: st.map (ia_cv G))) rfl rfl (by rw [B.2.1]; exact hd)
  obtain ⟨t, a1, b1⟩ := k9 (T.setVm vm') hT X'
  exact ⟨t, st' t a1, b1⟩
end IA3
