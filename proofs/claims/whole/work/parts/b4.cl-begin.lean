/-! THE CLASS, 5: null into an array; begin, prune. -/
theorem ia_WaastN {p : Program} {l : Launch} {e : Env} {R : Room} {s : State} {m : MethodId} {args : Array Value} {below : List Frame} {meth : Method} {c : Code} {H : Heap} {locs : List Loc} {cells slots : Nat} {Q : State → Prop} {cc : ByteArray} (hexec : p.tables.exec = Jvm.exec) (hb : c.code = cc) {a : Addr} {cell : Cell} {j : Int32} {k : Class} {comp : ClassId} {t : FieldType}
    (hcell : H[a]? = some cell) (hobj : ∀ q, cell.vm ≠ .statics q) (hknown : cell.vm ≠ .unknown) (hk : s.vm.classes[cell.cls]? = some k) (hkind : k.kind = .array comp t) (href : t.isReference = true)
    (hin : ¬ j < 0 ∧ j.toNatClampNeg < cell.slots.size)
    {g : JFrame} (hg : g.method = m) {rest : List Value} (hstack : g.stack = .null :: .int j :: .ref a :: rest) (hdg : decode cc g.pc = .ok (.aastore, 1))
    (kk : ∀ H' : Heap, H'[a]? = some (cell.setSlot j.toNatClampNeg .null) → H'.size = H.size → (∀ q, q ≠ a → H'[q]? = H[q]?) → W p l e R s m args below meth c H' (locs ++ [⟨a, j.toNatClampNeg⟩]) cells slots Q { g with pc := g.pc + 1, stack := rest }) :
    W p l e R s m args below meth c H locs cells slots Q g := by
  intro T hT X
  have hT' : T.heap[a]? = some cell := by rw [hT]; exact hcell
  obtain ⟨X', st⟩ := X.aastoreNullIn hexec hT' hobj hknown hk hkind href hin hg hstack (by rw [hb]; exact hdg)
  have hlt : a < T.heap.size := (Array.getElem?_eq_some_iff.mp hT').1
  obtain ⟨t', a1, b1⟩ := kk _ (heapAt_setCell_self _ hlt) (by rw [size_setCell, hT]) (fun q hq => by rw [heapAt_setCell_ne _ (Ne.symm hq), hT]) (T.setCell a (cell.setSlot j.toNatClampNeg .null)) rfl X'
  exact ⟨t', st t' a1, b1⟩
theorem ia_aastN {P : ia_P} {G : ia_G} {k d bc bs pc : Nat} {ls st : List Value} {h : ia_H} {Post : Option Value → ia_H → Prop} {nx tg r2 a n : Nat} {cst : Value} {f : Nat → Value} {i : Int32} {C : String} (hr : ia_row P k pc = some (.aastore, nx, tg, r2, cst)) (ha : h.1 a = some (.inl (.object C, n, f))) (h64 : 64 ≤ a) (hin : vp_in i n) (kk : ia_Sx P G k d bc bs nx ls st (ia_up h.1 a (.inl (.object C, n, updV f i.toNatClampNeg .null)), h.2) Post) : ia_Sx P G k d bc bs pc ls (.null :: .int i :: .ref a :: st) h Post := by
  intro ok M hM p e R s m args below meth c lc H locs cells slots Q B hl hS hL hc hs' kq
  obtain ⟨hd0, -⟩ := ia_row_use ok hM hr
  obtain ⟨hd, rfl⟩ := ia_dec_use hd0 rfl
  have hK := B.2.2.2.2.2.1.2.1
  obtain ⟨cell', e0, e1, em, -⟩ := ia_arrset (H1 := H) (j := i.toNatClampNeg) (x := .null) hL h64 ha
  obtain ⟨t0, ht0⟩ := List.getElem?_of_mem em
  obtain ⟨kA, comp, w1, w2, w3, w4⟩ := (hK.2 t0 (G.2.2.1 (.object C), .object C) (by rw [List.getElem?_map, ht0]; rfl)).2
  refine ia_WaastN B.1 B.2.1 e1 (by rw [e0]; exact fun q z => by cases z) (by rw [e0]; exact fun z => by cases z) (k := kA) (by rw [e0]; exact w1) w2 rfl ⟨fun z => hin (Or.inl z), by rw [e0, arrV_size]; exact ia_in2 hin⟩ rfl rfl hd (fun H1 z1 z2 z3 => ?_)
  obtain ⟨cell2, e02, e12, -, e22⟩ := ia_arrset (H1 := H1) (j := i.toNatClampNeg) (x := .null) hL h64 ha
  cases e12.symm.trans e1
  exact kk ok M hM p e R s m args below meth c lc H1 _ cells slots Q B hl (hS.put z2 z3 (ia_A_hi h64)) (e22 z1 z2 z3) hc hs' kq
/-- a heap by what is known of it -/
theorem ia_gen {P : ia_P} {G : ia_G} {k d bc bs pc : Nat} {ls st : List Value} {Post : Option Value → ia_H → Prop} {h : ia_H} {Q : ia_H → Prop} (q : Q h) (kk : ∀ h, Q h → ia_Sx P G k d bc bs pc ls st h Post) : ia_Sx P G k d bc bs pc ls st h Post := kk h q
/-- one cell is written -/
def o1 (h h' : ia_H) (x : Nat) (y : ia_E) : Prop := h'.2 = h.2 ∧ h'.1 x = some y ∧ ∀ q, q ≠ x → h'.1 q = h.1 q
theorem o1.up {h : ia_H} {x : Nat} {y : ia_E} : o1 h (ia_up h.1 x y, h.2) x y := ⟨rfl, ia_up_same, fun _ hq => ia_up_ne hq⟩
theorem o1.nx {h h1 : ia_H} {x : Nat} {y z : ia_E} (a : o1 h h1 x y) : o1 h (ia_up h1.1 x z, h1.2) x z := ⟨a.1, ia_up_same, fun q hq => (ia_up_ne hq).trans (a.2.2 q hq)⟩
theorem cl_ninit0 {G : ia_G} {h : ia_H} {d x a0 a1 : Nat} {fr : Int32} (hd : 1 ≤ d) (hx : h.1 x = some (.inr (5, [.null, .int 0, .null, .null, .int 0, .null]))) (h64 : 64 ≤ x) : ia_Cn pg G kk_N_init d 0 0 [.ref x, .null, .int fr, .ref a0, .ref a1] h (fun rv h' => rv = none ∧ o1 h h' x (.inr (5, [.null, .int fr, .ref a0, .ref a1, .int 0, .null]))) := by
  refine jd_met (ls := [.ref x, .null, .int fr, .ref a0, .ref a1]) rfl rfl rfl ?_
  refine ia_go 1 rfl ?_
  refine ia_obj pg_ok.2 rfl (Nat.le_of_ble_eq_true rfl) (by omega) ?_
  refine ia_go 2 rfl ?_
  refine ia_putf rfl hx h64 rfl rfl rfl rfl ?_
  refine ia_go 2 rfl ?_
  refine ia_putf rfl ia_up_same h64 rfl rfl rfl rfl ?_
  refine ia_go 2 rfl ?_
  refine ia_putf rfl ia_up_same h64 rfl rfl rfl rfl ?_
  refine ia_go 2 rfl ?_
  refine ia_putf rfl ia_up_same h64 rfl rfl rfl rfl ?_
  exact jd_rv0 rfl rfl rfl ⟨rfl, o1.up.nx.nx.nx⟩
theorem cl_ninit1 {G : ia_G} {h : ia_H} {d x p a0 a1 : Nat} {fr : Int32} (hd : 1 ≤ d) (hx : h.1 x = some (.inr (5, [.null, .int 0, .null, .null, .int 0, .null]))) (h64 : 64 ≤ x) : ia_Cn pg G kk_N_init d 0 0 [.ref x, .ref p, .int fr, .ref a0, .ref a1] h (fun rv h' => rv = none ∧ o1 h h' x (.inr (5, [.ref p, .int fr, .ref a0, .ref a1, .int 0, .null]))) := by
  refine jd_met (ls := [.ref x, .ref p, .int fr, .ref a0, .ref a1]) rfl rfl rfl ?_
  refine ia_go 1 rfl ?_
  refine ia_obj pg_ok.2 rfl (Nat.le_of_ble_eq_true rfl) (by omega) ?_
  refine ia_go 2 rfl ?_
  refine ia_putf rfl hx h64 rfl rfl rfl rfl ?_
  refine ia_go 2 rfl ?_
  refine ia_putf rfl ia_up_same h64 rfl rfl rfl rfl ?_
  refine ia_go 2 rfl ?_
  refine ia_putf rfl ia_up_same h64 rfl rfl rfl rfl ?_
  refine ia_go 2 rfl ?_
  refine ia_putf rfl ia_up_same h64 rfl rfl rfl rfl ?_
  exact jd_rv0 rfl rfl rfl ⟨rfl, o1.up.nx.nx.nx⟩
/-- enter: null, and a node -/
theorem cl_enter0 {G : ia_G} {h : ia_H} {d : Nat} : ia_Cn pg G kk_R_enter d 0 0 [.ref 64, .null] h (fun rv h' => rv = some (.int 0) ∧ h' = h) := by
  refine jd_met (ls := [.ref 64, .null, .retAddr 0]) rfl rfl rfl ?_
  refine ia_go 2 rfl ?_
  dsimp only [ia_s1, ia_s2, ia_cl, ia_D, List.getElem?_cons_zero, List.getElem?_cons_succ, List.set_cons_zero, List.set_cons_succ]
  refine ia_go 2 rfl ?_
  refine ia_go 1 rfl ?_
  exact jd_rv1 rfl rfl rfl trivial ⟨rfl, rfl⟩
def o2 (h h' : ia_H) (x : Nat) (y : ia_E) (x2 : Nat) (y2 : ia_E) : Prop := h'.2 = h.2 ∧ h'.1 x = some y ∧ h'.1 x2 = some y2 ∧ ∀ q, q ≠ x → q ≠ x2 → h'.1 q = h.1 q
theorem cl_enloop {G : ia_G} {h : ia_H} {d b l : Nat} {f : Nat → Value} {fs : List Value} {pv s : Value} {fr z : Int32} {a0 a1 : Nat} (e0 : h.1 64 = some (.inr (0, .ref 65 :: .ref 67 :: .ref 68 :: fs))) (e : h.1 68 = some (.inl (.object "RefinementBench$Node", 17, f))) (hb : h.1 b = some (.inr (5, [pv, .int fr, .ref a0, .ref a1, .int z, s]))) (b64 : 64 ≤ b) (l16 : l ≤ 16) (fl : f l = .null) (ff : ∀ j, 1 ≤ j → j < l → ∃ r, f j = .ref r) : ∀ (r i : Nat), i + r = l → 1 ≤ i → ia_Sx pg G kk_R_enter d 0 0 2 [.ref 64, .ref b, .int (nI i)] [] h (fun rv h' => rv = some (.int (nI l)) ∧ o2 h h' 68 (.inl (.object "RefinementBench$Node", 17, updV f l (.ref b))) b (.inr (5, [pv, .int fr, .ref a0, .ref a1, .int (nI l), s]))) := by
  have b68 : b ≠ 68 := fun q => by rw [q, e] at hb; cases hb
  intro r
  induction r with
  | zero =>
    intro i hi i1
    obtain rfl : i = l := by omega
    refine ia_go 2 rfl ?_
    refine ia_go 3 rfl ?_
    rw [if_neg (by exact (nI_nlt (a := 16) (by omega) (by omega)))]
    refine ia_go 1 rfl ?_
    refine ia_getf rfl e0 rfl ?_
    refine ia_go 1 rfl ?_
    refine ia_aald rfl e (vp_in_nI (by omega) (by omega)) (v := .null) (by rw [nI_clamp (by omega), fl]) ?_
    refine ia_go 1 rfl ?_
    refine ia_go 1 rfl ?_
    refine ia_getf rfl e0 rfl ?_
    refine ia_go 2 rfl ?_
    refine ia_aast rfl e (by omega) hb rfl rfl (vp_in_nI (by omega) (by omega)) ?_
    refine ia_go 2 rfl ?_
    rw [nI_clamp (by omega)]
    refine ia_putf rfl ((ia_up_ne b68).trans hb) b64 rfl rfl rfl rfl ?_
    refine ia_go 1 rfl ?_
    refine jd_rv1 rfl rfl rfl trivial ⟨rfl, rfl, ?_, ia_up_same, fun q q1 q2 => (ia_up_ne q2).trans (ia_up_ne q1)⟩
    show ia_up (ia_up h.1 68 _) b _ 68 = _
    rw [ia_up_ne (Ne.symm b68)]
    exact ia_up_same
  | succ r ih =>
    intro i hi i1
    obtain ⟨r', fr'⟩ := ff i i1 (by omega)
    refine ia_go 2 rfl ?_
    refine ia_go 3 rfl ?_
    rw [if_neg (by exact (nI_nlt (a := 16) (by omega) (by omega)))]
    refine ia_go 1 rfl ?_
    refine ia_getf rfl e0 rfl ?_
    refine ia_go 1 rfl ?_
    refine ia_aald rfl e (vp_in_nI (by omega) (by omega)) (v := .ref r') (by rw [nI_clamp (by omega), fr']) ?_
    refine ia_go 1 rfl ?_
    refine ia_go 1 rfl ?_
    dsimp only [ia_s1, ia_s2, ia_cl, ia_D, List.getElem?_cons_zero, List.getElem?_cons_succ, List.set_cons_zero, List.set_cons_succ]
    refine ia_go 1 rfl ?_
    rw [show nI i + Int32.ofInt 1 = nI (i + 1) from nI_1 i]
    exact ih (i + 1) (by omega) (by omega)
theorem cl_enter {G : ia_G} {h : ia_H} {d b l : Nat} {f : Nat → Value} {fs : List Value} {pv s : Value} {fr z : Int32} {a0 a1 : Nat} (e0 : h.1 64 = some (.inr (0, .ref 65 :: .ref 67 :: .ref 68 :: fs))) (e : h.1 68 = some (.inl (.object "RefinementBench$Node", 17, f))) (hb : h.1 b = some (.inr (5, [pv, .int fr, .ref a0, .ref a1, .int z, s]))) (b64 : 64 ≤ b) (l1 : 1 ≤ l) (l16 : l ≤ 16) (fl : f l = .null) (ff : ∀ j, 1 ≤ j → j < l → ∃ r, f j = .ref r) : ia_Cn pg G kk_R_enter d 0 0 [.ref 64, .ref b] h (fun rv h' => rv = some (.int (nI l)) ∧ o2 h h' 68 (.inl (.object "RefinementBench$Node", 17, updV f l (.ref b))) b (.inr (5, [pv, .int fr, .ref a0, .ref a1, .int (nI l), s]))) := by
  refine jd_met (ls := [.ref 64, .ref b, .retAddr 0]) rfl rfl rfl ?_
  refine ia_go 2 rfl ?_
  dsimp only [ia_s1, ia_s2, ia_cl, ia_D, List.getElem?_cons_zero, List.getElem?_cons_succ, List.set_cons_zero, List.set_cons_succ]
  exact cl_enloop e0 e hb b64 l16 fl ff (l - 1) 1 (by omega) (by omega)
theorem cl_bgloop {G : ia_G} {h0 : ia_H} {d bc bs : Nat} {fr : Int32} {fs : List Value} {Post : Option Value → ia_H → Prop} (e0 : h0.1 64 = some (.inr (0, .ref 65 :: .ref 67 :: .ref 68 :: fs))) (kk : ∀ (h : ia_H) (f : Nat → Value), o1 h0 h 68 (.inl (.object "RefinementBench$Node", 17, f)) → (∀ j, 1 ≤ j → j ≤ 16 → f j = .null) → ia_Sx pg G kk_R_begin d bc bs 33 [.ref 64, .int fr, .int (nI 17)] [] h Post) : ∀ (r i : Nat), i + r = 17 → 1 ≤ i → ∀ (h : ia_H) (f : Nat → Value), o1 h0 h 68 (.inl (.object "RefinementBench$Node", 17, f)) → (∀ j, 1 ≤ j → j < i → f j = .null) → ia_Sx pg G kk_R_begin d bc bs 14 [.ref 64, .int fr, .int (nI i)] [] h Post := by
  intro r
  induction r with
  | zero =>
    intro i hi i1 h f ho hf
    obtain rfl : i = 17 := by omega
    refine ia_go 3 rfl ?_
    rw [if_pos (by exact (by decide))]
    exact kk h f ho (fun j j1 j2 => hf j j1 (by omega))
  | succ r ih =>
    intro i hi i1 h f ho hf
    have e64 := (ho.2.2 64 (by omega)).trans e0
    refine ia_go 3 rfl ?_
    rw [if_neg (by exact (nI_nlt (a := 16) (by omega) (by omega)))]
    refine ia_go 1 rfl ?_
    refine ia_getf rfl e64 rfl ?_
    refine ia_go 2 rfl ?_
    refine ia_aastN rfl ho.2.1 (by omega) (vp_in_nI (by omega) (by omega)) ?_
    rw [nI_clamp (by omega)]
    refine ia_go 1 rfl ?_
    dsimp only [ia_s1, ia_s2, ia_cl, ia_D, List.getElem?_cons_zero, List.getElem?_cons_succ, List.set_cons_zero, List.set_cons_succ]
    refine ia_go 1 rfl ?_
    rw [show nI i + Int32.ofInt 1 = nI (i + 1) from nI_1 i]
    refine ih (i + 1) (by omega) (by omega) _ _ ho.nx (fun j j1 j2 => ?_)
    show (if j = i then Value.null else f j) = .null
    by_cases e : j = i
    · rw [if_pos e]
    · rw [if_neg e]; exact hf j j1 (by omega)
theorem cx_begin {G : ia_G} {h : ia_H} {d : Nat} {A : aS} {fr : Int32} (hd : 2 ≤ d) (y : CX A h) : ia_Cn pg G kk_R_begin d 1 6 [.ref 64, .int fr] h (cx_P h 1 (sp_begin A fr)) := by
  have y' := y
  obtain ⟨u, c1, v, c2, na, sa, ⟨⟨y0, yb, ysl, ynd, ydr, yjg, ycd, yar, yk⟩, ⟨v1, v2, v3, v4⟩, yn⟩⟩ := y
  have lb := yb.lt
  have ld := ydr.2.lt
  by_cases h1 : fr < 0
  · rw [show sp_begin A fr = (A, -1) by unfold sp_begin; rw [ch_neg (fun z => absurd z.1 (Int32.not_le.mpr h1))]]
    refine jd_met (ls := [.ref 64, .int fr, .retAddr 0]) rfl rfl rfl ?_
    refine ia_go 2 rfl ?_
    rw [if_pos (by exact h1)]
    refine ia_go 1 rfl ?_
    exact jd_rv1 rfl rfl rfl trivial (cx_same y')
  by_cases h2 : fr ≤ 7
  · obtain ⟨f67, e67, g67⟩ := ysl.1
    obtain ⟨a0, s0, t0⟩ := ysl.2 0 (by omega)
    obtain ⟨a1, s1, t1⟩ := ysl.2 1 (by omega)
    obtain ⟨f68, e68, -⟩ := ynd
    refine jd_met (ls := [.ref 64, .int fr, .retAddr 0]) rfl rfl rfl ?_
    refine ia_go 2 rfl ?_
    rw [if_neg (by exact h1)]
    refine ia_go 3 rfl ?_
    rw [if_pos (by exact h2)]
    refine ia_go 2 rfl ?_
    dsimp only [ia_s1, ia_s2, ia_cl, ia_D, List.getElem?_cons_zero, List.getElem?_cons_succ, List.set_cons_zero, List.set_cons_succ]
    refine cl_bgloop y0 (fun h1' f ho hf => ?_) 16 1 (by omega) (by omega) h f68 ⟨rfl, e68, fun _ _ => rfl⟩ (fun j j1 j2 => absurd j2 (by omega))
    have z1 : ∀ q, q ≠ 68 → h1'.1 q = h.1 q := ho.2.2
    have e64 := (z1 64 (by omega)).trans y0
    have hs1 : h1'.2 = h.2 := ho.1
    refine ia_go 1 rfl ?_
    refine ia_new rfl rfl rfl (bc' := 0) (bs' := 0) (by omega) (by show 0 + 6 ≤ 6; omega) ?_
    refine ia_go 4 rfl ?_
    have zn : ∀ q, q ≠ h1'.2 → ia_up h1'.1 h1'.2 (.inr (5, [.null, .int 0, .null, .null, .int 0, .null])) q = h1'.1 q := fun q hq => ia_up_ne hq
    refine ia_getf rfl ((zn 64 (by omega)).trans e64) rfl ?_
    refine ia_go 1 rfl ?_
    refine ia_aald rfl ((zn 67 (by omega)).trans ((z1 67 (by omega)).trans e67)) (by unfold vp_in; decide) (v := .ref 113) (g67 0 (by omega)) ?_
    refine ia_getf rfl ((zn 113 (by omega)).trans ((z1 113 (by omega)).trans s0)) rfl ?_
    refine ia_go 1 rfl ?_
    refine ia_getf rfl ((zn 64 (by omega)).trans e64) rfl ?_
    refine ia_go 1 rfl ?_
    refine ia_aald rfl ((zn 67 (by omega)).trans ((z1 67 (by omega)).trans e67)) (by unfold vp_in; decide) (v := .ref 114) (g67 1 (by omega)) ?_
    refine ia_getf rfl ((zn 114 (by omega)).trans ((z1 114 (by omega)).trans s1)) rfl ?_
    refine jd_cI h1'.2 [.null, .int fr, .ref a0, .ref a1] [.ref h1'.2, .ref 64] 0 0 (d' := d - 1) rfl rfl rfl (fs := [.null, .int 0, .null, .null, .int 0, .null]) ia_up_same rfl rfl (by omega) (by omega) (by omega) (cl_ninit0 (by omega) ia_up_same (by omega)) ?_
    rintro rv h2' ⟨rfl, hs2, en, hk2⟩
    have z2 : ∀ q, q ≠ h1'.2 → h2'.1 q = h1'.1 q := fun q hq => (hk2 q hq).trans (zn q hq)
    refine jd_cV 64 [.ref h1'.2] [] 0 0 (d' := d - 1) rfl rfl rfl ((z2 64 (by omega)).trans e64) rfl rfl (by omega) (by omega) (by omega) (cl_enter (l := 1) ((z2 64 (by omega)).trans e64) ((z2 68 (by omega)).trans ho.2.1) en (by omega) (by omega) (by omega) (hf 1 (by omega) (by omega)) (fun j j1 j2 => absurd j2 (by omega))) ?_
    rintro rv h3' ⟨rfl, hs3, e68', en', hk3⟩
    refine jd_rv1 rfl rfl rfl trivial ?_
    have hs2' : h2'.2 = h.2 + 1 := by rw [hs2]; show h1'.2 + 1 = _; omega
    have z3 : ∀ q, q ≠ 68 → q ≠ h.2 → h3'.1 q = h.1 q := fun q q1 q2 => (hk3 q q1 (by omega)).trans ((z2 q (by omega)).trans (z1 q q1))
    unfold sp_begin
    rw [ch_pos ⟨Int32.not_lt.mp h1, h2⟩]
    have hfr : sx_fr h h3' (fun q => q = 68) := ⟨by omega, fun q hq hS => z3 q hS (by omega)⟩
    have k : ks h h3' u v u v := by
      refine ks_fr hfr (fun q hq => ?_) (Or.inl rfl) (Or.inl rfl)
      right; right
      rw [hq]
      exact ⟨fun r w => (by rw [e68] at w; cases w), fun n f w => (by rw [e68] at w; cases w)⟩
    refine ⟨rfl, ⟨u, c1, v, c2, fun n => if n = 1 then h.2 else na n, sa, ⟨(z3 64 (by omega) (by omega)).trans y0, yb.keep (z3 65 (by omega) (by omega)) (z3 u (by omega) (by omega)) hfr.1, ysl.keep k (z3 67 (by omega) (by omega)) (fun i hi => z3 _ (by omega) (by omega)), ⟨_, e68', fun n n1 n2 => ?_⟩, ydr.keep (z3 69 (by omega) (by omega)) (z3 70 (by omega) (by omega)) (z3 v (by omega) (by omega)) hfr.1, yjg.keep (fun q _ _ => z3 q (by omega) (by omega)), ycd.keep (fun q _ _ => z3 q (by omega) (by omega)), yar.keep (z3 111 (by omega) (by omega)) (z3 112 (by omega) (by omega)), yk.keep k⟩, ⟨v1, v2, v3, by omega⟩, fun n n1 n2 n3 => ?_, fun n m n1 n2 m1 m2 n3 m3 => ?_⟩, hfr.mono (fun q hq => by rw [hq]; unfold cx_S rm_S; omega), by omega⟩
    · show (if n = 1 then Value.ref h1'.2 else f n) = if zE (bgN (aN A) fr (aQ A 0) (aQ A 1) n) = true then Value.ref (if n = 1 then h.2 else na n) else .null
      unfold bgN
      by_cases e : n = 1
      · rw [if_pos e, if_pos e, if_pos e, hs1]; rfl
      · rw [if_neg e, if_neg e, hf n n1 n2]; rfl
    · have n3' : zE (bgN (aN A) fr (aQ A 0) (aQ A 1) n) = true := n3
      have e : n = 1 := by
        refine Classical.byContradiction fun e => ?_
        rw [show bgN (aN A) fr (aQ A 0) (aQ A 1) n = (false, (aN A n).2) from if_neg e] at n3'
        cases n3'
      subst e
      show cx_n h3' u v (fun n => if n = 1 then h.2 else na n) sa (nwN fr 0 0 (aQ A 0) (aQ A 1)) 1
      exact ⟨a0, a1, .null, by show h3'.1 (if 1 = 1 then h.2 else na 1) = _; rw [if_pos rfl, ← hs1]; exact en', k _ _ t0, k _ _ t1, by show 142 ≤ (if 1 = 1 then h.2 else na 1) ∧ (if 1 = 1 then h.2 else na 1) < h3'.2; rw [if_pos rfl]; omega, fun _ => rfl, fun z => absurd rfl z⟩
    · have n3' : zE (bgN (aN A) fr (aQ A 0) (aQ A 1) n) = true := n3
      have m3' : zE (bgN (aN A) fr (aQ A 0) (aQ A 1) m) = true := m3
      have one : ∀ n, zE (bgN (aN A) fr (aQ A 0) (aQ A 1) n) = true → n = 1 := by
        intro n z
        refine Classical.byContradiction fun e => ?_
        rw [show bgN (aN A) fr (aQ A 0) (aQ A 1) n = (false, (aN A n).2) from if_neg e] at z
        cases z
      intro _ _ _
      rw [one n n3', one m m3']
  · rw [show sp_begin A fr = (A, -1) by unfold sp_begin; rw [ch_neg (fun z => h2 z.2)]]
    refine jd_met (ls := [.ref 64, .int fr, .retAddr 0]) rfl rfl rfl ?_
    refine ia_go 2 rfl ?_
    rw [if_neg (by exact h1)]
    refine ia_go 3 rfl ?_
    rw [if_neg (by exact h2)]
    refine ia_go 1 rfl ?_
    exact jd_rv1 rfl rfl rfl trivial (cx_same y')
