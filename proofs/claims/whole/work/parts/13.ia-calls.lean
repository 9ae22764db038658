/-! MY MACHINE, 4: contracts and calls. -/
def ia_Qc (P : ia_P) (G : ia_G) (Post : Option Value → ia_H → Prop) : Array Value → State → Outcome → State → Prop := fun _ st o t => (∃ (rv : Option Value) (h' : ia_H), o = .returned (rv.map (ia_cv G)) ∧ Post rv h' ∧ ia_L P G t h' t.heap) ∧ va_F (ia_A G) st t
def ia_rm (d mc ms : Nat) : Room := { frames := d, cells := mc, slots := ms, locals := 64 * d }
def ia_Pr (P : ia_P) (G : ia_G) (as : List Value) (h : ia_H) : Array Value → State → Prop := va_Pc (as.map (ia_cv G)) (fun U => ia_C P G U ∧ ia_L P G U h U.heap)
/-- method z, from these arguments and this heap, returns with Post; d calls deep at most, at most mc cells and ms slots come -/
def ia_Cn (P : ia_P) (G : ia_G) (z d mc ms : Nat) (as : List Value) (h : ia_H) (Post : Option Value → ia_H → Prop) : Prop := ia_okP P → ∀ Z : ia_M, (ia_Pm P)[z]? = some Z → Met G.1 (ia_my Z) [ia_mc Z] (ia_rm d mc ms) (ia_Pr P G as h) (ia_Qc P G Post) mc ms (ia_A G)
def ia_fa (as : List Value) : List Value := as.flatMap fun v => if ia_c2 v = true then [v, ia_D] else [v]
def ia_en (as : List Value) (n : Nat) : List Value := ia_fa as ++ List.replicate (n - (ia_fa as).length) ia_D
theorem ia_c2_not {G : ia_G} {v : Value} (h : ¬ ia_c2 v = true) : ¬ (ia_cv G v).category = 2 := by
  rw [ia_cv_cat]
  cases v <;> first | (exact absurd rfl h) | (intro z; cases z)
theorem ia_fa_args {G : ia_G} (as : List Value) : ∀ (b j : Nat) (v : Value), (ia_fa as)[j]? = some v → ia_isD v = false → (b + j, ia_cv G v) ∈ lv_args b (as.map (ia_cv G)) := by
  induction as with
  | nil => intro b j v h; cases h
  | cons a t ih =>
    intro b j v h hv
    by_cases hc : ia_c2 a = true
    · have e : ia_fa (a :: t) = a :: ia_D :: ia_fa t := by simp [ia_fa, hc]
      rw [e] at h
      show (b + j, ia_cv G v) ∈ (b, ia_cv G a) :: lv_args (if (ia_cv G a).category = 2 then b + 2 else b + 1) (t.map (ia_cv G))
      rw [if_pos (ia_c2_use hc)]
      match j, h with
      | 0, h => cases h; exact List.mem_cons_self
      | 1, h => cases h; cases hv
      | j + 2, h =>
        have := ih (b + 2) j v h hv
        rw [show b + (j + 2) = b + 2 + j by omega]
        exact List.mem_cons_of_mem _ this
    · have e : ia_fa (a :: t) = a :: ia_fa t := by simp [ia_fa, hc]
      rw [e] at h
      show (b + j, ia_cv G v) ∈ (b, ia_cv G a) :: lv_args (if (ia_cv G a).category = 2 then b + 2 else b + 1) (t.map (ia_cv G))
      rw [if_neg (ia_c2_not hc)]
      match j, h with
      | 0, h => cases h; exact List.mem_cons_self
      | j + 1, h =>
        have := ih (b + 1) j v h hv
        rw [show b + (j + 1) = b + 1 + j by omega]
        exact List.mem_cons_of_mem _ this
theorem ia_fa_len {G : ia_G} (as : List Value) : (lg_sl (as.map (ia_cv G))).length = (ia_fa as).length := by
  induction as with
  | nil => rfl
  | cons a t ih =>
    by_cases hc : ia_c2 a = true
    · have e : ia_fa (a :: t) = a :: ia_D :: ia_fa t := by simp [ia_fa, hc]
      have e2 : lg_sl ((a :: t).map (ia_cv G)) = .val (ia_cv G a) :: .second :: lg_sl (t.map (ia_cv G)) := by simp [lg_sl, ia_c2_use hc]
      rw [e, e2]; simp [ih]
    · have e : ia_fa (a :: t) = a :: ia_fa t := by simp [ia_fa, hc]
      have e2 : lg_sl ((a :: t).map (ia_cv G)) = .val (ia_cv G a) :: lg_sl (t.map (ia_cv G)) := by simp [lg_sl, ia_c2_not hc]
      rw [e, e2]; simp [ih]
theorem ia_en_ls {G : ia_G} {as : List Value} {n : Nat} (hlen : (ia_fa as).length ≤ n) : ia_ls G (lg_sl (as.map (ia_cv G)) ++ List.replicate (n - (lg_sl (as.map (ia_cv G))).length) Slot.unset).toArray n (ia_en as n) := by
  have hl := lv_entry (as.map (ia_cv G)) (n := n) (by rw [ia_fa_len]; exact hlen)
  refine ⟨⟨hl.1, hl.2.1, fun q hq => hl.2.2 q ?_⟩, by unfold ia_en; simp; omega⟩
  obtain ⟨v, h1, h2, h3⟩ := ia_pl_mem.mp hq
  obtain ⟨j, x⟩ := q
  dsimp only at h1 h3
  subst h3
  unfold ia_en at h1
  by_cases hj : j < (ia_fa as).length
  · rw [List.getElem?_append_left hj] at h1
    have := ia_fa_args (G := G) as 0 j v h1 h2
    rwa [Nat.zero_add] at this
  · rw [List.getElem?_append_right (by omega)] at h1
    have := List.eq_of_mem_replicate (List.mem_of_getElem? h1)
    rw [this] at h2
    cases h2
section IA4
variable {P : ia_P} {G : ia_G} {k d bc bs pc : Nat} {ls st : List Value} {h : ia_H} {Post : Option Value → ia_H → Prop}
theorem ia_leave {p : Program} {l : Launch} {e : Env} {R : Room} {s : State} {m : MethodId} {args : Array Value} {below : List Frame} {meth : Method} {c : Code} {H : Heap} {locs : List Loc} {cells slots : Nat} {Qc : Array Value → State → Outcome → State → Prop} {free : Addr → Prop} {cc : ByteArray} {lc : Array Slot} {t : Option FieldType} {rv : Option Value} (hx : p.tables.exec = Jvm.exec) (hb : c.code = cc) (hr : meth.sig.returnType = t) (hlocks : meth.locks = false) (hv : ia_rv t rv) (hd : decode cc pc = .ok (ia_ri t, 1)) (hq : ∀ t : State, t.heap = H → s.WarmedH t.vm → Qc args s (.returned (rv.map (ia_cv G))) t) (hf : ∀ q ∈ locs, free q.base) : W p l e R s m args below meth c H locs cells slots (MQ below Qc args s cells slots free) (F0 m pc lc (rv.toList.map (ia_cv G))) := by
  unfold ia_rv at hv
  split at hv
  · exact W.vret hx hb hr hq hf hd hlocks
  · exact W.lret hx hb hr hq hf hd hlocks
  · exact W.aret hx hb hr (Or.inl ⟨_, rfl⟩) (Or.inl rfl) hq hf hd hlocks
  · exact W.aret hx hb hr (Or.inl ⟨_, rfl⟩) (Or.inr ⟨_, rfl⟩) hq hf hd hlocks
  · exact W.aret hx hb hr (Or.inr ⟨_, rfl⟩) (Or.inl rfl) hq hf hd hlocks
  · exact W.aret hx hb hr (Or.inr ⟨_, rfl⟩) (Or.inr ⟨_, rfl⟩) hq hf hd hlocks
  · exact W.zret hx hb hr (by rfl) hq hf hd hlocks
  · exact W.zret hx hb hr hv hq hf hd hlocks
  · exact W.zret hx hb hr hv hq hf hd hlocks
  · exact W.zret hx hb hr hv hq hf hd hlocks
  · exact W.zret hx hb hr hv hq hf hd hlocks
  · exact hv.elim
/-- a contract out of a body -/
theorem ia_met {z mc ms n : Nat} {as : List Value} (hn : ((ia_Pm P)[z]?).map (fun M => ia_ml M) = some n) (hen : ia_en as n = ls) (hlen : (ia_fa as).length ≤ n) (k1 : ia_Sx P G z d mc ms 0 ls [] h Post) : ia_Cn P G z d mc ms as h Post := by
  intro ok Z hZ
  rw [hZ] at hn
  have hn : ia_ml Z = n := Option.some.inj hn
  subst hn
  refine Met.ofW (cc := ia_mb Z) (maxL := ia_ml Z) (ret := ia_mr Z) (ok.2.2 Z (List.mem_of_getElem? hZ)).1 rfl ?_
  intro p e s m args below meth c s₁ B hml hv
  obtain ⟨rfl, hC, hL⟩ := hv
  rw [lg_entry_eq]
  have hls := ia_en_ls (G := G) hlen
  rw [hen] at hls
  refine k1 ok Z hZ p e _ s m _ below meth c _ s.heap [] 0 0 _ ⟨B.exec, B.bytes, hml, (name_of_methodNamed B.named B.method).1, findClass_of_methodNamed B.named, hC, Nat.le_refl _, Nat.le_refl _⟩ hls va_S.rf hL (by rw [Nat.zero_add]; exact Nat.le_refl _) (by rw [Nat.zero_add]; exact Nat.le_refl _) ?_
  intro rv h' lc' H' locs' cells' slots' pc' hp hS' hL' hc' hs' hv' hd'
  refine W.widen (k := mc) (n := ms) hc' hs' ?_
  exact ia_leave B.exec B.bytes B.returns B.notSynchronized hv' hd' (fun t ht hW => ⟨⟨rv, h', rfl, hp, by rw [ht]; exact hL'.moved hW.alike⟩, hS'.F ht⟩) hS'.2.2
end IA4
/-- what a call's row asks of the words: the target is the callee's place; of a virtual call the constant is the place of the receiver's class; the second number 8: Object.<init>, 9: System.arraycopy -/
def ia_ml1 (M : ia_M) (idx : Nat) (y : MethodName) : Bool := ia_hw (ia_mw M) (.methodLink (ia_my M).cls idx y)
def ia_ml2 (M : ia_M) (idx : Nat) (y : MethodName) : Bool := (ia_mv M).any fun w => match w with
  | .methodLinkNest a i x _ => decide (a = (ia_my M).cls) && (decide (i = idx) && decide (x = y))
  | _ => false
def ia_ml3 (M : ia_M) (C : String) (idx : Nat) (y : MethodName) : Bool := (ia_mw M).any fun w => match w with
  | .methodLink a i x => decide (a = (ia_my M).cls) && (decide (i = idx) && (decide (y = ⟨y.cls, x.name, x.desc⟩) && (ia_hw (ia_mw M) (.sameMethod x.cls y.cls x.name x.desc) && ia_hw (ia_mw M) (.selects C x y))))
  | _ => false
def ia_ml4 (P : ia_P) (M : ia_M) (C : String) (idx : Nat) (y : MethodName) : Bool := (ia_mw M).any fun w => match w with
  | .methodLink a i x => decide (a = (ia_my M).cls) && (decide (i = idx) && (decide (y.desc = x.desc) && (ia_hw (ia_mw M) (.sameMethod x.cls x.cls x.name x.desc) && (ia_hw (ia_mw M) (.instanceMethod x) && (ia_hw (ia_mw M) (.selects C x y) && (decide (x.cls ≠ "java/lang/invoke/MethodHandle" ∧ x.cls ≠ "java/lang/invoke/VarHandle") && (ia_Pm P).any fun N => decide (ia_my N = x) && decide (ia_mn N ≠ 99)))))))
  | _ => false
def ia_com (M : ia_M) (Z : ia_M) : Bool := decide (ia_ml Z ≤ 45 ∧ ia_mn Z ≠ 99) && (decide ((ia_my Z).cls ≠ "java/lang/invoke/MethodHandle") && (decide ((ia_my Z).cls ≠ "java/lang/invoke/VarHandle") && (decide ((parseMethodDescriptor (ia_my Z).desc).map (fun d => d.parameters.length) = some (ia_mn Z)) && ia_hw (ia_mw M) (.initialized (ia_my Z).cls))))
def ia_cok (P : ia_P) (M : ia_M) (q : Nat × ia_R) : Bool := match q.2 with
  | (i, _, tg, r2, cst) => match i with
    | .invokevirtual idx => if r2 = 10 then ia_hw (ia_mw M) (.methodLink (ia_my M).cls idx ⟨"[B", "clone", "()Ljava/lang/Object;"⟩) && (ia_hw (ia_mw M) (.sameMethod "[B" "java/lang/Object" "clone" "()Ljava/lang/Object;") && (ia_hw (ia_mw M) (.native ⟨"java/lang/Object", "clone", "()Ljava/lang/Object;"⟩) && (ia_hw (ia_mw M) (.instanceMethod ⟨"java/lang/Object", "clone", "()Ljava/lang/Object;"⟩) && (ia_hw (ia_mw M) (.selects "[B" ⟨"[B", "clone", "()Ljava/lang/Object;"⟩ ⟨"java/lang/Object", "clone", "()Ljava/lang/Object;"⟩) && ia_hw (ia_mv M) (.castable "[B" "java/lang/Cloneable"))))) else (match (ia_Pm P)[tg]?, cst with
      | some Z, .retAddr ci => (match (ia_Pc P)[ci]? with
        | some r => ia_com M Z && (ia_hw (ia_mw M) (.instanceMethod (ia_my Z)) && ((ia_hw (ia_mw M) (.selects r.1 (ia_my Z) (ia_my Z)) && (ia_ml1 M idx (ia_my Z) || ia_ml2 M idx (ia_my Z))) || (ia_ml3 M r.1 idx (ia_my Z) || ia_ml4 P M r.1 idx (ia_my Z))))
        | none => false)
      | _, _ => false)
    | .invokestatic idx => if r2 = 11 then ia_hw (ia_mw M) (.methodLink (ia_my M).cls idx Lib.Math.max.name) && (ia_hw (ia_mw M) (.static Lib.Math.max.name) && (ia_hw (ia_mw M) (.initialized "java/lang/Math") && ia_hw (ia_mw M) (.code Lib.Math.max.name Lib.Math.max.code 2 (some .int)))) else if r2 = 12 then ia_hw (ia_mw M) (.methodLink (ia_my M).cls idx Lib.Math.min.name) && (ia_hw (ia_mw M) (.static Lib.Math.min.name) && (ia_hw (ia_mw M) (.initialized "java/lang/Math") && ia_hw (ia_mw M) (.code Lib.Math.min.name Lib.Math.min.code 2 (some .int)))) else if r2 = 9 then ia_hw (ia_mw M) (.methodLink (ia_my M).cls idx arraycopyName) && (ia_hw (ia_mw M) (.native arraycopyName) && (ia_hw (ia_mw M) (.static arraycopyName) && ia_hw (ia_mw M) (.initialized "java/lang/System"))) else (match (ia_Pm P)[tg]? with
      | some Z => ia_com M Z && (ia_hw (ia_mw M) (.static (ia_my Z)) && (ia_ml1 M idx (ia_my Z) || ia_ml2 M idx (ia_my Z)))
      | none => false)
    | .invokespecial idx => if r2 = 8 then ia_hw (ia_mw M) (.methodLink (ia_my M).cls idx objectInit) && (ia_hw (ia_mw M) (.instanceMethod objectInit) && ia_hw (ia_mw M) (.code objectInit ⟨#[0xb1]⟩ 1 none)) else (match (ia_Pm P)[tg]? with
      | some Z => ia_com M Z && (ia_hw (ia_mw M) (.instanceMethod (ia_my Z)) && ((decide ((ia_my Z).name = "<init>") && (decide (ia_mr Z = none) && (ia_ml1 M idx (ia_my Z) || ia_ml2 M idx (ia_my Z)))) || (decide ((ia_my Z).name ≠ "<init>") && (ia_ml1 M idx (ia_my Z) && (ia_hw (ia_mw M) (.sameMethod (ia_my Z).cls (ia_my Z).cls (ia_my Z).name (ia_my Z).desc) && ia_hw (ia_mw M) (.superclass (ia_my M).cls (ia_my Z).cls))))))
      | none => false)
    | _ => true
def ia_okQ (P : ia_P) : Prop := ∀ M ∈ ia_Pm P, ∀ q ∈ ia_mo M, ia_cok P M q = true
theorem ia_ml2_use {M : ia_M} {idx : Nat} {y : MethodName} (h : ia_ml2 M idx y = true) : ∃ host, Cond.methodLinkNest (ia_my M).cls idx y host ∈ ia_mv M := by
  obtain ⟨w, hw, h⟩ := List.any_eq_true.mp h
  split at h
  next a i x host =>
    obtain ⟨h1, h⟩ := Bool.and_eq_true_iff.mp h
    obtain ⟨h2, h3⟩ := Bool.and_eq_true_iff.mp h
    cases of_decide_eq_true h1; cases of_decide_eq_true h2; cases of_decide_eq_true h3
    exact ⟨host, hw⟩
  next => cases h
theorem ia_ml3_use {M : ia_M} {C : String} {idx : Nat} {y : MethodName} (h : ia_ml3 M C idx y = true) : ∃ x : MethodName, Cond.methodLink (ia_my M).cls idx x ∈ ia_mw M ∧ y = ⟨y.cls, x.name, x.desc⟩ ∧ Cond.sameMethod x.cls y.cls x.name x.desc ∈ ia_mw M ∧ Cond.selects C x y ∈ ia_mw M := by
  obtain ⟨w, hw, h⟩ := List.any_eq_true.mp h
  split at h
  next a i x =>
    obtain ⟨h1, h⟩ := Bool.and_eq_true_iff.mp h
    obtain ⟨h2, h⟩ := Bool.and_eq_true_iff.mp h
    obtain ⟨h3, h⟩ := Bool.and_eq_true_iff.mp h
    obtain ⟨h4, h5⟩ := Bool.and_eq_true_iff.mp h
    cases of_decide_eq_true h1; cases of_decide_eq_true h2
    exact ⟨x, hw, of_decide_eq_true h3, ia_hw_use h4, ia_hw_use h5⟩
  next => cases h
theorem ia_ml4_use {P : ia_P} {M : ia_M} {C : String} {idx : Nat} {y : MethodName} (h : ia_ml4 P M C idx y = true) : ∃ x : MethodName, Cond.methodLink (ia_my M).cls idx x ∈ ia_mw M ∧ y.desc = x.desc ∧ Cond.sameMethod x.cls x.cls x.name x.desc ∈ ia_mw M ∧ Cond.instanceMethod x ∈ ia_mw M ∧ Cond.selects C x y ∈ ia_mw M ∧ (x.cls ≠ "java/lang/invoke/MethodHandle" ∧ x.cls ≠ "java/lang/invoke/VarHandle") ∧ ∃ N ∈ ia_Pm P, ia_my N = x ∧ ia_mn N ≠ 99 := by
  obtain ⟨w, hw, h⟩ := List.any_eq_true.mp h
  split at h
  next a i x =>
    obtain ⟨h1, h⟩ := Bool.and_eq_true_iff.mp h
    obtain ⟨h2, h⟩ := Bool.and_eq_true_iff.mp h
    obtain ⟨h3, h⟩ := Bool.and_eq_true_iff.mp h
    obtain ⟨h4, h⟩ := Bool.and_eq_true_iff.mp h
    obtain ⟨h5, h⟩ := Bool.and_eq_true_iff.mp h
    obtain ⟨h6, h⟩ := Bool.and_eq_true_iff.mp h
    obtain ⟨h7, h8⟩ := Bool.and_eq_true_iff.mp h
    obtain ⟨N, hN, h9⟩ := List.any_eq_true.mp h8
    obtain ⟨h10, h11⟩ := Bool.and_eq_true_iff.mp h9
    cases of_decide_eq_true h1; cases of_decide_eq_true h2
    exact ⟨x, hw, of_decide_eq_true h3, ia_hw_use h4, ia_hw_use h5, ia_hw_use h6, of_decide_eq_true h7, N, hN, of_decide_eq_true h10, of_decide_eq_true h11⟩
  next => cases h
section IA5
variable {P : ia_P} {G : ia_G} {k d bc bs pc : Nat} {ls st : List Value} {h : ia_H} {Post : Option Value → ia_H → Prop}
theorem ia_rowq {P : ia_P} {k pc : Nat} {r : ia_R} {M : ia_M} (okq : ia_okQ P) (hM : (ia_Pm P)[k]? = some M) (h : ia_row P k pc = some r) : ia_cok P M (pc, r) = true := by
  unfold ia_row at h
  rw [hM] at h
  exact okq M (List.mem_of_getElem? hM) _ (ia_lookup h)
/-- behind a call -/
theorem ia_after {p : Program} {e : Env} {R : Room} {s : State} {m : MethodId} {args : Array Value} {below : List Frame} {meth : Method} {c : Code} {H : Heap} {locs : List Loc} {cells slots mc ms : Nat} {Q : State → Prop} {lc : Array Slot} {st0 rest : List Value} {a : Array Value} {Post' : Option Value → ia_H → Prop}
    (hr : va_Run p G.1 e R s m args below meth c H locs cells slots mc ms (F0 m pc lc st0) rest (ia_Qc P G Post' a) (ia_A G)) (hS : va_S (ia_A G) s.heap H locs)
    (kk : ∀ (rv : Option Value) (h' : ia_H) (H1 : Heap) (locs1 : List Loc), Post' rv h' → va_S (ia_A G) s.heap H1 locs1 → ia_L P G s h' H1 → W p G.1 e R s m args below meth c H1 locs1 (cells + mc) (slots + ms) Q (F0 m (pc + 3) lc ((rv.map (ia_cv G)).toList ++ rest))) : W p G.1 e R s m args below meth c H locs cells slots Q (F0 m pc lc st0) := by
  intro T hT X
  obtain ⟨v, st₀, t, T', L, h0, X', hL, e1, e2, ⟨⟨rv, h', hv, hp, hl⟩, hz, hk⟩, st⟩ := hr T hT X
  cases hv
  rw [h0] at hz hk
  have hvm : t.vm.Alike s.vm := by rw [← e2]; exact X'.warmed.alike.symm
  obtain ⟨t2, a1, b1⟩ := kk rv h' T'.heap (locs ++ L) hp
    ⟨Nat.le_trans hS.1 (by rw [e1]; exact hz), fun q h1 h2 => by rw [e1, hk q (Nat.lt_of_lt_of_le h1 hS.1) h2]; exact hS.2.1 q h1 h2, fun q hq => by
      rcases List.mem_append.mp hq with h | h
      · exact hS.2.2 q h
      · exact hL q h⟩ (by rw [e1]; exact hl.moved hvm) T' rfl X'
  exact ⟨t2, st t2 a1, b1⟩
theorem ia_pres {s : State} {H : Heap} {locs : List Loc} {as : List Value} (ok : ia_okP P) (hC : ia_C P G s) (hS : va_S (ia_A G) s.heap H locs) (hL : ia_L P G s h H) : PreS s H (ia_Pr P G as h) (as.map (ia_cv G)) := by
  refine ⟨fun a U g mk q => ⟨q.1, q.2.1.calling g mk a ok.1, q.2.2.moved (Vm.Alike.refl U.vm)⟩, fun U hU hW => ⟨rfl, hC.warm ok.1 hW (locs := locs) (by rw [hU]; exact hS), by rw [hU]; exact hL.moved hW.alike⟩⟩
theorem ia_com_use {M Z : ia_M} (h : ia_com M Z = true) : (ia_ml Z ≤ 45 ∧ ia_mn Z ≠ 99) ∧ ((ia_my Z).cls ≠ "java/lang/invoke/MethodHandle" ∧ (ia_my Z).cls ≠ "java/lang/invoke/VarHandle") ∧ (∀ sig, parseMethodDescriptor (ia_my Z).desc = some sig → ia_mn Z = sig.parameters.length) ∧ Cond.initialized (ia_my Z).cls ∈ ia_mw M := by
  obtain ⟨h1, h⟩ := Bool.and_eq_true_iff.mp h
  obtain ⟨h2, h⟩ := Bool.and_eq_true_iff.mp h
  obtain ⟨h3, h⟩ := Bool.and_eq_true_iff.mp h
  obtain ⟨h4, h5⟩ := Bool.and_eq_true_iff.mp h
  refine ⟨of_decide_eq_true h1, ⟨of_decide_eq_true h2, of_decide_eq_true h3⟩, fun sig hs => ?_, ia_hw_use h5⟩
  have h6 := of_decide_eq_true h4
  rw [hs] at h6
  exact (Option.some.inj h6).symm
/-- a call: virtual (a method of the receiver's own class, a nest mate's, an inherited one) -/
theorem ia_callV {nx z r2 idx ci a d' mc ms bc' bs' : Nat} {as rest stk fs : List Value} {Post' : Option Value → ia_H → Prop} (okq : ia_okQ P) (hr : ia_row P k pc = some (.invokevirtual idx, nx, z, r2, .retAddr ci)) (hr2 : r2 ≠ 10) (hstk : stk = as.reverse ++ .ref a :: rest) (ha : h.1 a = some (.inr (ci, fs))) (hn : ((ia_Pm P)[z]?).map (fun Z => ia_mn Z) = some as.length) (hroom : (rest.map fun v => v.category).sum ≤ 8) (hd : d' + 1 ≤ d) (hbc : bc' + mc ≤ bc) (hbs : bs' + ms ≤ bs) (hK : ia_Cn P G z d' mc ms (.ref a :: as) h Post') (kk : ∀ rv h', Post' rv h' → ia_Sx P G k d bc' bs' nx ls (rv.toList ++ rest) h' Post) : ia_Sx P G k d bc bs pc ls stk h Post := by
  intro ok M hM p e R s m args below meth c lc H locs cells slots Q B hl hS hL hc hs' kq
  obtain ⟨hdd0, -⟩ := ia_row_use ok hM hr
  obtain ⟨hdd, rfl⟩ := ia_dec_use hdd0 rfl
  have ho := ia_rowq okq hM hr
  have hMm := List.mem_of_getElem? hM
  obtain ⟨b1, b2, b3, b4, b5, hC, b7, b8⟩ := B
  unfold ia_cok at ho
  dsimp only at ho
  rw [if_neg hr2] at ho
  split at ho
  next Z ci' hZ hci' =>
    cases hci'
    rw [hZ] at hn
    have hn : ia_mn Z = as.length := Option.some.inj hn
    split at ho
    next r hrc =>
      obtain ⟨g1, ho⟩ := Bool.and_eq_true_iff.mp ho
      obtain ⟨g2, ho⟩ := Bool.and_eq_true_iff.mp ho
      obtain ⟨m1, m2, m3, m4⟩ := ia_com_use g1
      have wd : ∀ w : Cond, w ∈ ia_mw M → w.before args s = true := fun w hw => ia_w ((ok.1.1 M hMm).1 _ hw) ((hC.1 M hMm).2.1 _ hw)
      have hcw : (ia_mc Z).before args s = true := ia_w (ia_mc_ok Z) ((hC.1 Z (List.mem_of_getElem? hZ)).1 m1.2)
      have hws : ∀ w ∈ [ia_mc Z], ∀ (a' : Array Value) (U : State), s.WarmedH U.vm → w.before a' U = true := fun w hw a' U hW => by
        rw [List.mem_singleton.mp hw]; exact word_at hW (ia_wok_use (ia_mc_ok Z)) hcw
      obtain ⟨r', cellB, q1, q2, q3, q4⟩ := hL.obj hC.2.1 ha
      cases hrc.symm.trans q1
      have hpre := ia_pres (as := .ref a :: as) ok hC hS hL
      have hmet := hK ok Z hZ
      have hfr : (ia_rm d' mc ms).frames + 1 ≤ R.frames := Nat.le_trans hd b7
      have hlo : 8 + (ia_ml Z + 11) + (ia_rm d' mc ms).locals ≤ R.locals := by
        show 8 + (ia_ml Z + 11) + 64 * d' ≤ R.locals
        omega
      have hstk2 : stk.map (ia_cv G) = (as.map (ia_cv G)).reverse ++ .ref (ia_ad G a) :: rest.map (ia_cv G) := by
        rw [hstk, List.map_append, List.map_reverse]; rfl
      have hroom2 : 2 * (F0 m pc lc (stk.map (ia_cv G))).monitorRoom + ((rest.map (ia_cv G)).map fun v => v.category).sum ≤ 8 := by
        refine lv_room ?_
        rw [List.map_map, show ((fun v : Value => v.category) ∘ ia_cv G) = (fun v => v.category) from funext fun v => ia_cv_cat G v]
        exact hroom
      have hrun : va_Run p G.1 e R s m args below meth c H locs cells slots mc ms (F0 m pc lc (stk.map (ia_cv G))) (rest.map (ia_cv G)) (ia_Qc P G Post' (Value.ref (ia_ad G a) :: as.map (ia_cv G)).toArray) (ia_A G) := by
        rcases Bool.or_eq_true_iff.mp ho with ho | ho
        · obtain ⟨g3, ho⟩ := Bool.and_eq_true_iff.mp ho
          rcases Bool.or_eq_true_iff.mp ho with g4 | g4
          · exact va_runV (nL := ia_ml M) (Ts := []) ⟨b1, b2, b3, b5, fun w hw => by cases hw⟩ hmet ⟨⟨rfl, rfl, hfr, hlo, hws, List.mem_singleton.mpr rfl, hcw, wd _ m4, m2, m3, wd _ (ia_hw_use g4)⟩, wd _ (ia_hw_use g2), wd _ (ia_hw_use g3)⟩ ⟨hpre.1, ⟨cellB, q2, q3, q4⟩, hpre.2⟩ rfl (by rw [List.length_map]; exact hn.symm) (hl.1.1) hstk2 hroom2 hdd ⟨by omega, by omega⟩
          · obtain ⟨host, g5⟩ := ia_ml2_use g4
            exact va_runVN (nL := ia_ml M) (Ts := []) ⟨b1, b2, b3, b5, fun w hw => by cases hw⟩ hmet ⟨⟨⟨rfl, rfl, hfr, hlo, hws, List.mem_singleton.mpr rfl⟩, hcw, wd _ m4, m2, m3, va_Nw.use rfl ((hC.1 M hMm).2.2 _ g5)⟩, wd _ (ia_hw_use g2), wd _ (ia_hw_use g3)⟩ ⟨hpre.1, ⟨cellB, q2, q3, q4⟩, hpre.2⟩ rfl (by rw [List.length_map]; exact hn.symm) (hl.1.1) hstk2 hroom2 hdd ⟨by omega, by omega⟩
        · rcases Bool.or_eq_true_iff.mp ho with ho | ho
          case inr =>
            obtain ⟨x, g4, g5, g6, g7, g8, g9, N, g10, g11, g12⟩ := ia_ml4_use ho
            refine va_runU (nL := ia_ml M) (Ts := []) (owner := x.cls) (x := x) ⟨b1, b2, b3, b5, fun w hw => by cases hw⟩ hmet ⟨⟨rfl, rfl, hfr, hlo, hws, List.mem_singleton.mpr rfl⟩, hcw, wd _ m4, g9, fun sig hs => m3 sig (by rw [g5]; exact hs), wd _ g4, wd _ g6, ?_, wd _ g8, wd _ (ia_hw_use g2)⟩ ⟨hpre.1, ⟨cellB, q2, q3, q4⟩, hpre.2⟩ rfl (by rw [List.length_map]; exact hn.symm) (hl.1.1) hstk2 hroom2 hdd ⟨by omega, by omega⟩
            have hcN : (ia_mc N).before args s = true := ia_w (ia_mc_ok N) ((hC.1 N g10).1 g12)
            subst g11
            exact va_Decl.of (wd _ g7) hcN
          obtain ⟨x, g4, g5, g6, g7⟩ := ia_ml3_use ho
          have hxd : (ia_my Z).desc = x.desc := by rw [g5]
          refine va_runU (nL := ia_ml M) (Ts := []) (owner := (ia_my Z).cls) (x := x) ⟨b1, b2, b3, b5, fun w hw => by cases hw⟩ hmet ⟨⟨rfl, rfl, hfr, hlo, hws, List.mem_singleton.mpr rfl⟩, hcw, wd _ m4, m2, fun sig hs => m3 sig (by rw [hxd]; exact hs), wd _ g4, wd _ g6, ?_, wd _ g7, wd _ (ia_hw_use g2)⟩ ⟨hpre.1, ⟨cellB, q2, q3, q4⟩, hpre.2⟩ rfl (by rw [List.length_map]; exact hn.symm) (hl.1.1) hstk2 hroom2 hdd ⟨by omega, by omega⟩
          rw [← g5]
          exact va_Decl.of (wd _ (ia_hw_use g2)) hcw
      refine ia_after hrun hS (fun rv h' H1 locs1 hp hS1 hL1 => ?_)
      have k9 := kk rv h' hp ok M hM p e R s m args below meth c lc H1 locs1 (cells + mc) (slots + ms) Q ⟨b1, b2, b3, b4, b5, hC, b7, b8⟩ hl hS1 hL1 (by omega) (by omega) kq
      rw [List.map_append, show rv.toList.map (ia_cv G) = (rv.map (ia_cv G)).toList by cases rv <;> rfl] at k9
      exact k9
    next => cases ho
  next => cases ho
/-- a static call -/
theorem ia_callS {nx z r2 idx d' mc ms bc' bs' : Nat} {cst : Value} {as rest stk : List Value} {Post' : Option Value → ia_H → Prop} (okq : ia_okQ P) (hr : ia_row P k pc = some (.invokestatic idx, nx, z, r2, cst)) (hr2 : r2 < 9) (hstk : stk = as.reverse ++ rest) (hn : ((ia_Pm P)[z]?).map (fun Z => ia_mn Z) = some as.length) (hroom : (rest.map fun v => v.category).sum ≤ 8) (hd : d' + 1 ≤ d) (hbc : bc' + mc ≤ bc) (hbs : bs' + ms ≤ bs) (hK : ia_Cn P G z d' mc ms as h Post') (kk : ∀ rv h', Post' rv h' → ia_Sx P G k d bc' bs' nx ls (rv.toList ++ rest) h' Post) : ia_Sx P G k d bc bs pc ls stk h Post := by
  intro ok M hM p e R s m args below meth c lc H locs cells slots Q B hl hS hL hc hs' kq
  obtain ⟨hdd0, -⟩ := ia_row_use ok hM hr
  obtain ⟨hdd, rfl⟩ := ia_dec_use hdd0 rfl
  have ho := ia_rowq okq hM hr
  have hMm := List.mem_of_getElem? hM
  obtain ⟨b1, b2, b3, b4, b5, hC, b7, b8⟩ := B
  unfold ia_cok at ho
  dsimp only at ho
  rw [if_neg (by omega), if_neg (by omega), if_neg (by omega)] at ho
  split at ho
  next Z hZ =>
    rw [hZ] at hn
    have hn : ia_mn Z = as.length := Option.some.inj hn
    obtain ⟨g1, ho⟩ := Bool.and_eq_true_iff.mp ho
    obtain ⟨g2, ho⟩ := Bool.and_eq_true_iff.mp ho
    obtain ⟨m1, m2, m3, m4⟩ := ia_com_use g1
    have wd : ∀ w : Cond, w ∈ ia_mw M → w.before args s = true := fun w hw => ia_w ((ok.1.1 M hMm).1 _ hw) ((hC.1 M hMm).2.1 _ hw)
    have hcw : (ia_mc Z).before args s = true := ia_w (ia_mc_ok Z) ((hC.1 Z (List.mem_of_getElem? hZ)).1 m1.2)
    have hws : ∀ w ∈ [ia_mc Z], ∀ (a' : Array Value) (U : State), s.WarmedH U.vm → w.before a' U = true := fun w hw a' U hW => by
      rw [List.mem_singleton.mp hw]; exact word_at hW (ia_wok_use (ia_mc_ok Z)) hcw
    have hpre := ia_pres (as := as) ok hC hS hL
    have hmet := hK ok Z hZ
    have hfr : (ia_rm d' mc ms).frames + 1 ≤ R.frames := Nat.le_trans hd b7
    have hlo : 8 + (ia_ml Z + 11) + (ia_rm d' mc ms).locals ≤ R.locals := by
      show 8 + (ia_ml Z + 11) + 64 * d' ≤ R.locals
      omega
    have hstk2 : stk.map (ia_cv G) = (as.map (ia_cv G)).reverse ++ rest.map (ia_cv G) := by
      rw [hstk, List.map_append, List.map_reverse]
    have hroom2 : 2 * (F0 m pc lc (stk.map (ia_cv G))).monitorRoom + ((rest.map (ia_cv G)).map fun v => v.category).sum ≤ 8 := by
      refine lv_room ?_
      rw [List.map_map, show ((fun v : Value => v.category) ∘ ia_cv G) = (fun v => v.category) from funext fun v => ia_cv_cat G v]
      exact hroom
    have hrun : va_Run p G.1 e R s m args below meth c H locs cells slots mc ms (F0 m pc lc (stk.map (ia_cv G))) (rest.map (ia_cv G)) (ia_Qc P G Post' (as.map (ia_cv G)).toArray) (ia_A G) := by
      rcases Bool.or_eq_true_iff.mp ho with g4 | g4
      · exact va_runS (nL := ia_ml M) (Ts := []) ⟨b1, b2, b3, b5, fun w hw => by cases hw⟩ hmet ⟨⟨rfl, rfl, hfr, hlo, hws, List.mem_singleton.mpr rfl, hcw, wd _ m4, m2, m3, wd _ (ia_hw_use g4)⟩, wd _ (ia_hw_use g2)⟩ hpre rfl (by rw [List.length_map]; exact hn.symm) (hl.1.1) hstk2 hroom2 hdd ⟨by omega, by omega⟩
      · obtain ⟨host, g5⟩ := ia_ml2_use g4
        exact va_runSN (nL := ia_ml M) (Ts := []) ⟨b1, b2, b3, b5, fun w hw => by cases hw⟩ hmet ⟨⟨⟨rfl, rfl, hfr, hlo, hws, List.mem_singleton.mpr rfl⟩, hcw, wd _ m4, m2, m3, va_Nw.use rfl ((hC.1 M hMm).2.2 _ g5)⟩, wd _ (ia_hw_use g2), trivial⟩ hpre rfl (by rw [List.length_map]; exact hn.symm) (hl.1.1) hstk2 hroom2 hdd ⟨by omega, by omega⟩
    refine ia_after hrun hS (fun rv h' H1 locs1 hp hS1 hL1 => ?_)
    have k9 := kk rv h' hp ok M hM p e R s m args below meth c lc H1 locs1 (cells + mc) (slots + ms) Q ⟨b1, b2, b3, b4, b5, hC, b7, b8⟩ hl hS1 hL1 (by omega) (by omega) kq
    rw [List.map_append, show rv.toList.map (ia_cv G) = (rv.map (ia_cv G)).toList by cases rv <;> rfl] at k9
    exact k9
  next => cases ho
/-- a constructor's call, or one of a superclass's method -/
theorem ia_callI {nx z r2 idx a d' mc ms bc' bs' : Nat} {cst : Value} {as rest stk : List Value} {x0 : ia_E} {Post' : Option Value → ia_H → Prop} (okq : ia_okQ P) (hr : ia_row P k pc = some (.invokespecial idx, nx, z, r2, cst)) (hr2 : r2 ≠ 8) (hstk : stk = as.reverse ++ .ref a :: rest) (ha : ∃ ci fs, h.1 a = some (.inr (ci, fs))) (hn : ((ia_Pm P)[z]?).map (fun Z => ia_mn Z) = some as.length) (hroom : (rest.map fun v => v.category).sum ≤ 8) (hd : d' + 1 ≤ d) (hbc : bc' + mc ≤ bc) (hbs : bs' + ms ≤ bs) (hK : ia_Cn P G z d' mc ms (.ref a :: as) h Post') (kk : ∀ rv h', Post' rv h' → ia_Sx P G k d bc' bs' nx ls (rv.toList ++ rest) h' Post) : ia_Sx P G k d bc bs pc ls stk h Post := by
  intro ok M hM p e R s m args below meth c lc H locs cells slots Q B hl hS hL hc hs' kq
  obtain ⟨hdd0, -⟩ := ia_row_use ok hM hr
  obtain ⟨hdd, rfl⟩ := ia_dec_use hdd0 rfl
  have ho := ia_rowq okq hM hr
  have hMm := List.mem_of_getElem? hM
  obtain ⟨b1, b2, b3, b4, b5, hC, b7, b8⟩ := B
  unfold ia_cok at ho
  dsimp only at ho
  rw [if_neg hr2] at ho
  split at ho
  next Z hZ =>
    rw [hZ] at hn
    have hn : ia_mn Z = as.length := Option.some.inj hn
    obtain ⟨g1, ho⟩ := Bool.and_eq_true_iff.mp ho
    obtain ⟨g2, ho⟩ := Bool.and_eq_true_iff.mp ho
    obtain ⟨m1, m2, m3, m4⟩ := ia_com_use g1
    have wd : ∀ w : Cond, w ∈ ia_mw M → w.before args s = true := fun w hw => ia_w ((ok.1.1 M hMm).1 _ hw) ((hC.1 M hMm).2.1 _ hw)
    have hcw : (ia_mc Z).before args s = true := ia_w (ia_mc_ok Z) ((hC.1 Z (List.mem_of_getElem? hZ)).1 m1.2)
    have hws : ∀ w ∈ [ia_mc Z], ∀ (a' : Array Value) (U : State), s.WarmedH U.vm → w.before a' U = true := fun w hw a' U hW => by
      rw [List.mem_singleton.mp hw]; exact word_at hW (ia_wok_use (ia_mc_ok Z)) hcw
    have hpre := ia_pres (as := .ref a :: as) ok hC hS hL
    have hmet := hK ok Z hZ
    have hfr : (ia_rm d' mc ms).frames + 1 ≤ R.frames := Nat.le_trans hd b7
    have hlo : 8 + (ia_ml Z + 11) + (ia_rm d' mc ms).locals ≤ R.locals := by
      show 8 + (ia_ml Z + 11) + 64 * d' ≤ R.locals
      omega
    have hstk2 : stk.map (ia_cv G) = (as.map (ia_cv G)).reverse ++ .ref (ia_ad G a) :: rest.map (ia_cv G) := by
      rw [hstk, List.map_append, List.map_reverse]; rfl
    have hroom2 : 2 * (F0 m pc lc (stk.map (ia_cv G))).monitorRoom + ((rest.map (ia_cv G)).map fun v => v.category).sum ≤ 8 := by
      refine lv_room ?_
      rw [List.map_map, show ((fun v : Value => v.category) ∘ ia_cv G) = (fun v => v.category) from funext fun v => ia_cv_cat G v]
      exact hroom
    have hrun : va_Run p G.1 e R s m args below meth c H locs cells slots mc ms (F0 m pc lc (stk.map (ia_cv G))) (rest.map (ia_cv G)) (ia_Qc P G Post' (Value.ref (ia_ad G a) :: as.map (ia_cv G)).toArray) (ia_A G) := by
      rcases Bool.or_eq_true_iff.mp ho with ho | ho
      · obtain ⟨g3, ho⟩ := Bool.and_eq_true_iff.mp ho
        obtain ⟨g6, ho⟩ := Bool.and_eq_true_iff.mp ho
        have g3 := of_decide_eq_true g3
        have g6 := of_decide_eq_true g6
        have hcw2 : Cond.code (ia_my Z) (ia_mb Z) (ia_ml Z) none ∈ [ia_mc Z] := by rw [← g6]; exact List.mem_singleton.mpr rfl
        have hcw3 : (Cond.code (ia_my Z) (ia_mb Z) (ia_ml Z) none).before args s = true := by rw [← g6]; exact hcw
        rcases Bool.or_eq_true_iff.mp ho with g4 | g4
        · exact va_runI (nL := ia_ml M) (Ts := []) ⟨b1, b2, b3, b5, fun w hw => by cases hw⟩ hmet ⟨⟨rfl, rfl, hfr, hlo, hws, hcw2, hcw3, wd _ m4, m2, m3, wd _ (ia_hw_use g4)⟩, g3, wd _ (ia_hw_use g2)⟩ hpre rfl (by rw [List.length_map]; exact hn.symm) (hl.1.1) hstk2 hroom2 hdd ⟨by omega, by omega⟩
        · obtain ⟨host, g5⟩ := ia_ml2_use g4
          exact va_runIN (nL := ia_ml M) (Ts := []) ⟨b1, b2, b3, b5, fun w hw => by cases hw⟩ hmet ⟨⟨⟨rfl, rfl, hfr, hlo, hws, hcw2⟩, hcw3, wd _ m4, m2, m3, va_Nw.use rfl ((hC.1 M hMm).2.2 _ g5)⟩, g3, wd _ (ia_hw_use g2)⟩ hpre rfl (by rw [List.length_map]; exact hn.symm) (hl.1.1) hstk2 hroom2 hdd ⟨by omega, by omega⟩
      · obtain ⟨g3, ho⟩ := Bool.and_eq_true_iff.mp ho
        obtain ⟨g4, ho⟩ := Bool.and_eq_true_iff.mp ho
        obtain ⟨g5, g6⟩ := Bool.and_eq_true_iff.mp ho
        obtain ⟨ci, fs, ha⟩ := ha
        obtain ⟨r, cellB, q1, q2, q3, q4⟩ := hL.obj hC.2.1 ha
        exact va_runSU (nL := ia_ml M) (Ts := []) (hC.2.1.1 ci r q1).2 ⟨b1, b2, b3, b5, fun w hw => by cases hw⟩ hmet ⟨⟨rfl, rfl, hfr, hlo, hws, List.mem_singleton.mpr rfl⟩, wd _ (ia_hw_use g4), wd _ (ia_hw_use g5), wd _ (ia_hw_use g6), wd _ (ia_hw_use g2), wd _ m4, hcw, of_decide_eq_true g3, m3⟩ ⟨hpre.1, ⟨cellB, q2, q3, q4⟩, hpre.2⟩ rfl (by rw [List.length_map]; exact hn.symm) (hl.1.1) hstk2 hroom2 hdd ⟨by omega, by omega⟩
    refine ia_after hrun hS (fun rv h' H1 locs1 hp hS1 hL1 => ?_)
    have k9 := kk rv h' hp ok M hM p e R s m args below meth c lc H1 locs1 (cells + mc) (slots + ms) Q ⟨b1, b2, b3, b4, b5, hC, b7, b8⟩ hl hS1 hL1 (by omega) (by omega) kq
    rw [List.map_append, show rv.toList.map (ia_cv G) = (rv.map (ia_cv G)).toList by cases rv <;> rfl] at k9
    exact k9
  next => cases ho
/-- Object's constructor does nothing -/
theorem ia_obj {nx z idx a : Nat} {cst : Value} (okq : ia_okQ P) (hr : ia_row P k pc = some (.invokespecial idx, nx, z, 8, cst)) (hroom : (st.map fun v => v.category).sum ≤ 8) (hd : 1 ≤ d) (kk : ia_Sx P G k d bc bs nx ls st h Post) : ia_Sx P G k d bc bs pc ls (.ref a :: st) h Post := by
  intro ok M hM p e R s m args below meth c lc H locs cells slots Q B hl hS hL hc hs' kq
  obtain ⟨hdd0, -⟩ := ia_row_use ok hM hr
  obtain ⟨hdd, rfl⟩ := ia_dec_use hdd0 rfl
  have ho := ia_rowq okq hM hr
  have hMm := List.mem_of_getElem? hM
  have k9 := kk ok M hM p e R s m args below meth c lc H locs cells slots Q B hl hS hL hc hs' kq
  obtain ⟨b1, b2, b3, b4, b5, hC, b7, b8⟩ := B
  unfold ia_cok at ho
  dsimp only at ho
  rw [if_pos rfl] at ho
  obtain ⟨g1, ho⟩ := Bool.and_eq_true_iff.mp ho
  obtain ⟨g2, g3⟩ := Bool.and_eq_true_iff.mp ho
  have wd : ∀ w : Cond, w ∈ ia_mw M → w.before args s = true := fun w hw => ia_w ((ok.1.1 M hMm).1 _ hw) ((hC.1 M hMm).2.1 _ hw)
  have hroom2 : ((st.map (ia_cv G)).map fun v => v.category).sum ≤ 8 := by
    rw [List.map_map, show ((fun v : Value => v.category) ∘ ia_cv G) = (fun v => v.category) from funext fun v => ia_cv_cat G v]
    exact hroom
  exact W.objInit b1 b2 b5 (wd _ (ia_hw_use g1)) (wd _ (ia_hw_use g2)) (wd _ (ia_hw_use g3)) rfl (by rw [b3]; exact hl.1.1) rfl hdd (by omega) (by show 2 * 0 + _ + 12 ≤ _; omega) k9
/-- System.arraycopy of bytes -/
theorem ia_copy {nx z idx a b n0 n1 : Nat} {cst : Value} {f g : Nat → Value} {sp dp n : Int32} (okq : ia_okQ P) (hr : ia_row P k pc = some (.invokestatic idx, nx, z, 9, cst)) (ha : h.1 a = some (.inl (.byte, n0, f))) (hb : h.1 b = some (.inl (.byte, n1, g))) (h64 : 64 ≤ b) (h1 : ¬ sp < 0) (h2 : ¬ dp < 0) (h3 : ¬ n < 0) (h4 : sp.toNatClampNeg + n.toNatClampNeg ≤ n0) (h5 : dp.toNatClampNeg + n.toNatClampNeg ≤ n1) (hfit : ∀ i : Nat, i < n.toNatClampNeg → ∃ x : Int32, f (sp.toNatClampNeg + i) = .int x ∧ fits .byte (.int x) = true) (hroom : (st.map fun v => v.category).sum ≤ 8) (hd : 1 ≤ d)
    (kk : ia_Sx P G k d bc bs nx ls st (ia_up h.1 b (.inl (.byte, n1, va_cpy f g sp.toNatClampNeg dp.toNatClampNeg n.toNatClampNeg)), h.2) Post) : ia_Sx P G k d bc bs pc ls (.int n :: .int dp :: .ref b :: .int sp :: .ref a :: st) h Post := by
  intro ok M hM p e R s m args below meth c lc H locs cells slots Q B hl hS hL hc hs' kq
  obtain ⟨hdd0, -⟩ := ia_row_use ok hM hr
  obtain ⟨hdd, rfl⟩ := ia_dec_use hdd0 rfl
  have ho := ia_rowq okq hM hr
  have hMm := List.mem_of_getElem? hM
  have BB := B
  obtain ⟨b1, b2, b3, b4, b5, hC, b7, b8⟩ := B
  unfold ia_cok at ho
  dsimp only at ho
  rw [if_neg (by decide), if_neg (by decide), if_pos rfl] at ho
  obtain ⟨g1, ho⟩ := Bool.and_eq_true_iff.mp ho
  obtain ⟨g2, ho⟩ := Bool.and_eq_true_iff.mp ho
  obtain ⟨g3, g4⟩ := Bool.and_eq_true_iff.mp ho
  have wd : ∀ w : Cond, w ∈ ia_mw M → w.before args s = true := fun w hw => ia_w ((ok.1.1 M hMm).1 _ hw) ((hC.1 M hMm).2.1 _ hw)
  have hroom2 : ((st.map (ia_cv G)).map fun v => v.category).sum ≤ 8 := by
    rw [List.map_map, show ((fun v : Value => v.category) ∘ ia_cv G) = (fun v => v.category) from funext fun v => ia_cv_cat G v]
    exact hroom
  have nn : ∀ z : Int32, ¬ z < 0 → z.toInt = (z.toNatClampNeg : Int) := by
    intro z hz
    have hz0 : (0 : Int) ≤ z.toInt := by
      have := Int32.not_lt.mp hz
      simpa using Int32.le_iff_toInt_le.mp this
    show z.toInt = ((z.toInt.toNat : Nat) : Int)
    omega
  obtain ⟨cs, c1, c2, c3, c4, c5, c6⟩ := hL.arr hC.2.1 ha
  have hy := hL.1 b _ hb
  unfold ia_at at hy
  rw [if_neg (Nat.not_lt.mpr h64)] at hy
  obtain ⟨em, e1⟩ := hy
  obtain ⟨t0, ht0⟩ := List.getElem?_of_mem em
  obtain ⟨hs6, k0, hk0, cm0, hkk0⟩ := c2
  obtain ⟨-, k1, hk1, cm1, hkk1⟩ := (hC.2.1.2 t0 (G.2.2.1 .byte, .byte) (by rw [List.getElem?_map, ht0]; rfl)).1 n1 (fun j => ia_cv G (g j))
  intro T hT X
  obtain ⟨vm', X', step⟩ := X.arraycopy b1 b5 (wd _ (ia_hw_use g1)) (wd _ (ia_hw_use g2)) (wd _ (ia_hw_use g3)) (wd _ (ia_hw_use g4)) (src := ia_ad G a) (dst := ia_ad G b) (cs := cs) (cd := arrV (G.2.2.1 .byte) n1 (fun j => ia_cv G (g j))) (srcPos := sp) (destPos := dp) (n := n) (by rw [hT]; exact c1) (by rw [hT]; exact e1)
    hs6 (fun _ h => by cases h) c3 (fun h => by cases h) hk0 hk1 hkk0 hkk1 (by simp [refKind]) h1 h2 h3
    (by rw [nn sp h1, nn n h3]; omega)
    (by rw [nn dp h2, nn n h3, arrV_size]; omega)
    (fun vm₁ _ i hi => by
      obtain ⟨x, x1, x2⟩ := hfit i hi
      have e9 : cs.slots.getD (sp.toNatClampNeg + i) .null = .int x := by
        rw [Array.getD_eq_getD_getElem?, c6 _ (by omega), x1]
        rfl
      refine ⟨?_, ?_⟩
      · rw [e9]
        exact x2
      · rw [e9]
        exact trivial)
    (g := F0 m pc lc (.int n :: .int dp :: .ref (ia_ad G b) :: .int sp :: .ref (ia_ad G a) :: st.map (ia_cv G))) rfl (by rw [b3]; exact hl.1.1) (rest := st.map (ia_cv G)) rfl (by rw [b2]; exact hdd) (by omega) (by show 2 * 0 + _ + (nativeFrameWords "java/lang/System" "arraycopy" 5 + 11) ≤ _; have : nativeFrameWords "java/lang/System" "arraycopy" 5 + 11 ≤ 56 := (by decide); omega)
  have e3 : copied cs (arrV (G.2.2.1 .byte) n1 (fun j => ia_cv G (g j))) sp dp n = arrV (G.2.2.1 .byte) n1 (fun j => ia_cv G (va_cpy f g sp.toNatClampNeg dp.toNatClampNeg n.toNatClampNeg j)) := va_copiedX (ia_cv G) cs (G.2.2.1 .byte) f g c6 h4
  rw [e3] at X' step
  have hlt : ia_ad G b < H.size := (Array.getElem?_eq_some_iff.mp e1).1
  generalize hH1 : H.setIfInBounds (ia_ad G b) (arrV (G.2.2.1 .byte) n1 (fun j => ia_cv G (va_cpy f g sp.toNatClampNeg dp.toNatClampNeg n.toNatClampNeg j))) = H1
  have hz1 : H1.size = H.size := by rw [← hH1]; simp
  have oq : ∀ q : Nat, q ≠ ia_ad G b → H1[q]? = H[q]? := fun q hq => by rw [← hH1]; simp [Array.getElem?_setIfInBounds, Ne.symm hq]
  have hv1 : H1[ia_ad G b]? = some (arrV (G.2.2.1 .byte) n1 (fun j => ia_cv G (va_cpy f g sp.toNatClampNeg dp.toNatClampNeg n.toNatClampNeg j))) := by rw [← hH1]; simp [Array.getElem?_setIfInBounds, hlt]
  have hsg : ia_sg P G b (.inl (.byte, n1, va_cpy f g sp.toNatClampNeg dp.toNatClampNeg n.toNatClampNeg)) H1 := ⟨em, hv1⟩
  obtain ⟨t, a1, b9⟩ := kk ok M hM p e R s m args below meth c lc H1 _ cells slots Q BB hl ⟨by rw [hz1]; exact hS.1, fun q g1 g2 => by
      rw [oq q (fun e => g2 (by rw [e]; exact ia_A_hi h64))]
      exact hS.2.1 q g1 g2, fun q hq => by
      rcases List.mem_append.mp hq with h | h
      · exact hS.2.2 q h
      · obtain ⟨z, -, hz⟩ := List.mem_map.mp h
        rw [← hz]
        exact ia_A_hi h64⟩ (hL.set h64 hb hz1 oq hsg) hc hs' kq _ (by rw [← hH1, ← hT]; rfl) X'
  exact ⟨t, step t a1, b9⟩
/-- clone of a byte[] -/
theorem ia_clone {nx z idx a n bc' bs' : Nat} {cst : Value} {f : Nat → Value} (okq : ia_okQ P) (hr : ia_row P k pc = some (.invokevirtual idx, nx, z, 10, cst)) (ha : h.1 a = some (.inl (.byte, n, f))) (h64 : 64 ≤ a) (hfit : ∀ j : Nat, j < n → ∃ x : Int32, f j = .int x ∧ fits .byte (.int x) = true) (hroom : (st.map fun v => v.category).sum ≤ 8) (hd : 1 ≤ d) (hbc : bc' + 1 ≤ bc) (hbs : bs' + n ≤ bs)
    (kk : ia_Sx P G k d bc' bs' nx ls (.ref h.2 :: st) (ia_up h.1 h.2 (.inl (.byte, n, f)), h.2 + 1) Post) : ia_Sx P G k d bc bs pc ls (.ref a :: st) h Post := by
  intro ok M hM p e R s m args below meth c lc H locs cells slots Q B hl hS hL hc hs' kq
  obtain ⟨hdd0, -⟩ := ia_row_use ok hM hr
  obtain ⟨hdd, rfl⟩ := ia_dec_use hdd0 rfl
  have ho := ia_rowq okq hM hr
  have hMm := List.mem_of_getElem? hM
  have BB := B
  obtain ⟨b1, b2, b3, b4, b5, hC, b7, b8⟩ := B
  unfold ia_cok at ho
  dsimp only at ho
  rw [if_pos rfl] at ho
  obtain ⟨g1, ho⟩ := Bool.and_eq_true_iff.mp ho
  obtain ⟨g2, ho⟩ := Bool.and_eq_true_iff.mp ho
  obtain ⟨g3, ho⟩ := Bool.and_eq_true_iff.mp ho
  obtain ⟨g4, ho⟩ := Bool.and_eq_true_iff.mp ho
  obtain ⟨g5, g6⟩ := Bool.and_eq_true_iff.mp ho
  have wd : ∀ w : Cond, w ∈ ia_mw M → w.before args s = true := fun w hw => ia_w ((ok.1.1 M hMm).1 _ hw) ((hC.1 M hMm).2.1 _ hw)
  have hroom2 : ((st.map (ia_cv G)).map fun v => v.category).sum ≤ 8 := by
    rw [List.map_map, show ((fun v : Value => v.category) ∘ ia_cv G) = (fun v => v.category) from funext fun v => ia_cv_cat G v]
    exact hroom
  have hy := hL.1 a _ ha
  unfold ia_at at hy
  rw [if_neg (Nat.not_lt.mpr h64)] at hy
  obtain ⟨em, e1⟩ := hy
  obtain ⟨t0, ht0⟩ := List.getElem?_of_mem em
  have hKt := hC.2.1.2 t0 (G.2.2.1 .byte, .byte) (by rw [List.getElem?_map, ht0]; rfl)
  have hnm : s.vm.findClass "[B" = some (G.2.2.1 .byte) := hKt.2
  obtain ⟨c0, t0', f1, f2, f3⟩ := Cond.castable_spec (va_Nw.use (A := args) rfl ((hC.1 M hMm).2.2 _ (ia_hw_use g6)))
  cases hnm.symm.trans f1
  intro T hT X
  obtain ⟨-, kA, hkA, comp, hkind⟩ := State.isArrayOf_alike X.warmed.alike (hKt.1 0 (fun _ => .null))
  obtain ⟨-, kS, hkS, compS, hkindS⟩ := hKt.1 0 (fun _ => .null)
  have hsz : (arrV (G.2.2.1 .byte) n (fun j => ia_cv G (f j))).slots.size = n := arrV_size _ _ _
  obtain ⟨vm', X', st'⟩ := X.cloneArray b1 b5 (wd _ (ia_hw_use g1)) (wd _ (ia_hw_use g2)) (wd _ (ia_hw_use g3)) (wd _ (ia_hw_use g4)) (wd _ (ia_hw_use g5)) (a := ia_ad G a) (cell := arrV (G.2.2.1 .byte) n (fun j => ia_cv G (f j))) (by rw [hT]; exact e1) (fun k h => by cases h) (fun h => by cases h) hnm f2 f3
    (fun i v hv => by
      have hi : i < n := by rw [← hsz]; exact (Array.getElem?_eq_some_iff.mp hv).1
      rw [arrV_read _ _ hi] at hv
      cases hv
      obtain ⟨x, x1, x2⟩ := hfit i hi
      have hk' : T.vm.classes[G.2.2.1 .byte]? = some kA := hkA
      rw [x1]
      show T.fitsSlot (G.2.2.1 .byte) _ i (.int x) = true
      simpa [State.fitsSlot, State.slotType?, hk', hkind, arrV] using x2)
    (g := F0 m pc lc (.ref (ia_ad G a) :: st.map (ia_cv G))) rfl (by rw [b3]; exact hl.1.1) rfl (by rw [b2]; exact hdd) (by omega) (by show 2 * 0 + _ + 14 ≤ _; omega) (by omega) (by rw [hsz]; omega) (hloader := Vm.clonesLoader_of_array hkS hkindS)
  have hcellE : ({ cls := (arrV (G.2.2.1 .byte) n (fun j => ia_cv G (f j))).cls, slots := (arrV (G.2.2.1 .byte) n (fun j => ia_cv G (f j))).slots } : Cell) = arrV (G.2.2.1 .byte) n (fun j => ia_cv G (f j)) := rfl
  rw [hcellE, hsz] at X'
  have had := hL.next
  generalize hH1 : H.push (arrV (G.2.2.1 .byte) n (fun j => ia_cv G (f j))) = H1
  have z1 : H1.size = H.size + 1 := by rw [← hH1, Array.size_push]
  have e2 : H1[H.size]? = some (arrV (G.2.2.1 .byte) n (fun j => ia_cv G (f j))) := by rw [← hH1, Array.getElem?_push_size]
  have o1 : ∀ q : Nat, q < H.size → H1[q]? = H[q]? := fun q hq => by rw [← hH1, Array.getElem?_push, if_neg (Nat.ne_of_lt hq)]
  have hsg : ia_sg P G h.2 (.inl (.byte, n, f)) H1 := ⟨em, by rw [had]; exact e2⟩
  obtain ⟨t, a1, b9⟩ := kk ok M hM p e R s m args below meth c lc H1 locs (cells + 1) (slots + n) Q BB hl ⟨Nat.le_trans hS.1 (by omega), fun x g1 g2 => (o1 x (Nat.lt_of_lt_of_le g1 hS.1)).trans (hS.2.1 x g1 g2), hS.2.2⟩ (hL.push z1 o1 (Nat.le_trans hC.2.2.2.2.2.2 hS.1) hsg) (by omega) (by omega) kq ((T.setVm vm').pushCell (arrV (G.2.2.1 .byte) n (fun j => ia_cv G (f j)))) (by rw [← hH1, ← hT]; rfl) X'
  refine ⟨t, st' t ?_, b9⟩
  rw [hcellE, hT]
  have a2 : Steps p.tables e below (((T.setVm vm').pushCell (arrV (G.2.2.1 .byte) n (fun j => ia_cv G (f j)))).setTop (F0 m (pc + 3) lc (.ref (ia_ad G h.2) :: st.map (ia_cv G)))) t := a1
  rw [had] at a2
  exact a2
/-- Math.max -/
theorem ia_mmax {nx z idx : Nat} {cst : Value} {x y : Int32} (okq : ia_okQ P) (hr : ia_row P k pc = some (.invokestatic idx, nx, z, 11, cst)) (hroom : (st.map fun v => v.category).sum ≤ 8) (hd : 1 ≤ d) (kk : ia_Sx P G k d bc bs nx ls (.int (if x < y then y else x) :: st) h Post) : ia_Sx P G k d bc bs pc ls (.int y :: .int x :: st) h Post := by
  intro ok M hM p e R s m args below meth c lc H locs cells slots Q B hl hS hL hc hs' kq
  obtain ⟨hdd0, -⟩ := ia_row_use ok hM hr
  obtain ⟨hdd, rfl⟩ := ia_dec_use hdd0 rfl
  have ho := ia_rowq okq hM hr
  have hMm := List.mem_of_getElem? hM
  have k9 := kk ok M hM p e R s m args below meth c lc H locs cells slots Q B hl hS hL hc hs' kq
  obtain ⟨b1, b2, b3, b4, b5, hC, b7, b8⟩ := B
  unfold ia_cok at ho
  dsimp only at ho
  rw [if_pos rfl] at ho
  obtain ⟨g1, ho⟩ := Bool.and_eq_true_iff.mp ho
  obtain ⟨g2, ho⟩ := Bool.and_eq_true_iff.mp ho
  obtain ⟨g3, g4⟩ := Bool.and_eq_true_iff.mp ho
  have wd : ∀ w : Cond, w ∈ ia_mw M → w.before args s = true := fun w hw => ia_w ((ok.1.1 M hMm).1 _ hw) ((hC.1 M hMm).2.1 _ hw)
  have hroom2 : ((st.map (ia_cv G)).map fun v => v.category).sum ≤ 8 := by
    rw [List.map_map, show ((fun v : Value => v.category) ∘ ia_cv G) = (fun v => v.category) from funext fun v => ia_cv_cat G v]
    exact hroom
  exact va_mmax b1 b2 (by rw [b3]; exact hl.1.1.symm) b5 (wd _ (ia_hw_use g1)) (wd _ (ia_hw_use g2)) (wd _ (ia_hw_use g3)) (wd _ (ia_hw_use g4)) (by omega) (by omega) (by omega) (by omega) hdd k9
/-- Math.min -/
theorem ia_mmin {nx z idx : Nat} {cst : Value} {x y : Int32} (okq : ia_okQ P) (hr : ia_row P k pc = some (.invokestatic idx, nx, z, 12, cst)) (hroom : (st.map fun v => v.category).sum ≤ 8) (hd : 1 ≤ d) (kk : ia_Sx P G k d bc bs nx ls (.int (if y < x then y else x) :: st) h Post) : ia_Sx P G k d bc bs pc ls (.int y :: .int x :: st) h Post := by
  intro ok M hM p e R s m args below meth c lc H locs cells slots Q B hl hS hL hc hs' kq
  obtain ⟨hdd0, -⟩ := ia_row_use ok hM hr
  obtain ⟨hdd, rfl⟩ := ia_dec_use hdd0 rfl
  have ho := ia_rowq okq hM hr
  have hMm := List.mem_of_getElem? hM
  have k9 := kk ok M hM p e R s m args below meth c lc H locs cells slots Q B hl hS hL hc hs' kq
  obtain ⟨b1, b2, b3, b4, b5, hC, b7, b8⟩ := B
  unfold ia_cok at ho
  dsimp only at ho
  rw [if_neg (by decide), if_pos rfl] at ho
  obtain ⟨g1, ho⟩ := Bool.and_eq_true_iff.mp ho
  obtain ⟨g2, ho⟩ := Bool.and_eq_true_iff.mp ho
  obtain ⟨g3, g4⟩ := Bool.and_eq_true_iff.mp ho
  have wd : ∀ w : Cond, w ∈ ia_mw M → w.before args s = true := fun w hw => ia_w ((ok.1.1 M hMm).1 _ hw) ((hC.1 M hMm).2.1 _ hw)
  have hroom2 : ((st.map (ia_cv G)).map fun v => v.category).sum ≤ 8 := by
    rw [List.map_map, show ((fun v : Value => v.category) ∘ ia_cv G) = (fun v => v.category) from funext fun v => ia_cv_cat G v]
    exact hroom
  exact va_mmin b1 b2 (by rw [b3]; exact hl.1.1.symm) b5 (wd _ (ia_hw_use g1)) (wd _ (ia_hw_use g2)) (wd _ (ia_hw_use g3)) (wd _ (ia_hw_use g4)) (by omega) (by omega) (by omega) (by omega) hdd k9
end IA5
