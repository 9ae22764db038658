/-! THE START, 1: the words (printed by gen/start.py). -/
theorem pg_wi_in {l : List Nat} {w : Cond} (h : w ∈ pg_wi l) : w ∈ tables_1 := by
  obtain ⟨i, -, hi⟩ := List.mem_filterMap.mp h
  exact List.mem_of_getElem? hi
def st_four : List Cond := [.selects "java/lang/StringBuilder" ⟨"java/lang/AbstractStringBuilder", "ensureCapacityInternal", "(I)V"⟩ ⟨"java/lang/AbstractStringBuilder", "ensureCapacityInternal", "(I)V"⟩, .selects "java/lang/StringBuilder" ⟨"java/lang/AbstractStringBuilder", "newCapacity", "(I)I"⟩ ⟨"java/lang/AbstractStringBuilder", "newCapacity", "(I)I"⟩, .selects "java/lang/StringBuilder" ⟨"java/lang/AbstractStringBuilder", "putStringAt", "(ILjava/lang/String;)V"⟩ ⟨"java/lang/AbstractStringBuilder", "putStringAt", "(ILjava/lang/String;)V"⟩, .selects "java/lang/StringBuilder" ⟨"java/lang/AbstractStringBuilder", "inflateIfNeededFor", "(Ljava/lang/String;)V"⟩ ⟨"java/lang/AbstractStringBuilder", "inflateIfNeededFor", "(Ljava/lang/String;)V"⟩]
theorem pg_xs_in : ∀ w ∈ pg_xs, w ∈ k2_sels lw_privs ∨ w ∈ st_four := by decide +kernel
/-- a private method of a superclass is selected as it is -/
theorem st_private {C : String} {y z : MethodName} {s : State} {args : Array Value} (hy : y.cls ≠ "java/lang/invoke/MethodHandle" ∧ y.cls ≠ "java/lang/invoke/VarHandle") (hz : z.cls = y.cls) (hs : (Cond.selects C z z).before args s = true) (hpriv : (Cond.privateMethod y).before args s = true) (hinst : (Cond.instanceMethod y).before args s = true) : (Cond.selects C y y).before args s = true := by
  obtain ⟨c2, r2, m2, q1, q2, q3, q4, kP, hkP, hkPi⟩ := Cond.selects_spec (args := args) (first := s) (o := none) (s := s) (idx := []) hs
  obtain ⟨mk, methM, hnamed, hmethM, -, -⟩ := Cond.instanceMethod_spec hinst
  have hfound : s.methodFound? y.cls y.name y.desc = some mk := State.methodFound?_of_named hnamed hy
  have hcls : mk.cls = m2.cls := Option.some.inj ((findClass_of_methodNamed hnamed).symm.trans (by rw [← hz]; exact findClass_of_methodNamed q3))
  have hsel : selectMethod {} s.vm c2 mk = .method mk := selectMethod_private hmethM (Cond.privateMethod_at hpriv mk methM hnamed hmethM)
  simp only [Cond.before, Cond.holds, Cond.value, q1, hfound, hnamed, hsel, hcls, hkP]
  simp; exact hkPi
set_option maxRecDepth 100000 in
theorem st_four_ok {s : State} {args : Array Value} (hts : ∀ w ∈ tables_1, w.before args s = true) : ∀ w ∈ st_four, w.before args s = true := by
  show ∀ w ∈ ([.selects "java/lang/StringBuilder" ⟨"java/lang/AbstractStringBuilder", "ensureCapacityInternal", "(I)V"⟩ ⟨"java/lang/AbstractStringBuilder", "ensureCapacityInternal", "(I)V"⟩, .selects "java/lang/StringBuilder" ⟨"java/lang/AbstractStringBuilder", "newCapacity", "(I)I"⟩ ⟨"java/lang/AbstractStringBuilder", "newCapacity", "(I)I"⟩, .selects "java/lang/StringBuilder" ⟨"java/lang/AbstractStringBuilder", "putStringAt", "(ILjava/lang/String;)V"⟩ ⟨"java/lang/AbstractStringBuilder", "putStringAt", "(ILjava/lang/String;)V"⟩, .selects "java/lang/StringBuilder" ⟨"java/lang/AbstractStringBuilder", "inflateIfNeededFor", "(Ljava/lang/String;)V"⟩ ⟨"java/lang/AbstractStringBuilder", "inflateIfNeededFor", "(Ljava/lang/String;)V"⟩] : List Cond), w.before args s = true
  exact List.forall_mem_cons.mpr ⟨st_private (z := ⟨"java/lang/AbstractStringBuilder", "isLatin1", "()Z"⟩) ⟨by decide, by decide⟩ rfl (hts _ (List.mem_of_getElem? (i := 244) rfl)) (hts _ (List.mem_of_getElem? (i := 207) rfl)) (hts _ (List.mem_of_getElem? (i := 208) rfl)), List.forall_mem_cons.mpr ⟨st_private (z := ⟨"java/lang/AbstractStringBuilder", "isLatin1", "()Z"⟩) ⟨by decide, by decide⟩ rfl (hts _ (List.mem_of_getElem? (i := 244) rfl)) (hts _ (List.mem_of_getElem? (i := 211) rfl)) (hts _ (List.mem_of_getElem? (i := 212) rfl)), List.forall_mem_cons.mpr ⟨st_private (z := ⟨"java/lang/AbstractStringBuilder", "isLatin1", "()Z"⟩) ⟨by decide, by decide⟩ rfl (hts _ (List.mem_of_getElem? (i := 244) rfl)) (hts _ (List.mem_of_getElem? (i := 595) rfl)) (hts _ (List.mem_of_getElem? (i := 596) rfl)), List.forall_mem_cons.mpr ⟨st_private (z := ⟨"java/lang/AbstractStringBuilder", "isLatin1", "()Z"⟩) ⟨by decide, by decide⟩ rfl (hts _ (List.mem_of_getElem? (i := 244) rfl)) (hts _ (List.mem_of_getElem? (i := 599) rfl)) (hts _ (List.mem_of_getElem? (i := 600) rfl)), fun _ h => absurd h List.not_mem_nil⟩⟩⟩⟩
def st_wd (M : ia_M) : Prop := (ia_mn M ≠ 99 → ia_mc M ∈ tables_1) ∧ (∀ w ∈ ia_mw M, w ∈ pg_xs ∨ w ∈ tables_1) ∧ ∀ w ∈ ia_mv M, w ∈ tables_1
set_option maxRecDepth 100000 in
theorem wd_L_law : st_wd me_L_law := ⟨fun h => absurd rfl h, fun w h => Or.inr (pg_wi_in h), fun w h => pg_wi_in h⟩
set_option maxRecDepth 100000 in
theorem wd_R_init : st_wd me_R_init := ⟨fun _ => List.mem_of_getElem? (i := 27) rfl, fun w h => Or.inr (pg_wi_in h), fun w h => pg_wi_in h⟩
set_option maxRecDepth 100000 in
theorem wd_D_init : st_wd me_D_init := ⟨fun _ => List.mem_of_getElem? (i := 72) rfl, fun w h => Or.inr (pg_wi_in h), fun w h => pg_wi_in h⟩
set_option maxRecDepth 100000 in
theorem wd_J_init : st_wd me_J_init := ⟨fun _ => List.mem_of_getElem? (i := 88) rfl, fun w h => Or.inr (pg_wi_in h), fun w h => pg_wi_in h⟩
set_option maxRecDepth 100000 in
theorem wd_C_init : st_wd me_C_init := ⟨fun _ => List.mem_of_getElem? (i := 108) rfl, fun w h => Or.inr (pg_wi_in h), fun w h => pg_wi_in h⟩
set_option maxRecDepth 100000 in
theorem wd_I_init : st_wd me_I_init := ⟨fun _ => List.mem_of_getElem? (i := 115) rfl, fun w h => Or.inr (pg_wi_in h), fun w h => pg_wi_in h⟩
set_option maxRecDepth 100000 in
theorem wd_S_init : st_wd me_S_init := ⟨fun _ => List.mem_of_getElem? (i := 143) rfl, fun w h => Or.inr (pg_wi_in h), fun w h => pg_wi_in h⟩
set_option maxRecDepth 100000 in
theorem wd_R_type : st_wd me_R_type := ⟨fun _ => List.mem_of_getElem? (i := 185) rfl, fun w h => Or.inr (pg_wi_in h), fun w h => pg_wi_in h⟩
set_option maxRecDepth 100000 in
theorem wd_R_arePrintable : st_wd me_R_arePrintable := ⟨fun _ => List.mem_of_getElem? (i := 188) rfl, fun w h => Or.inr (pg_wi_in h), fun w h => pg_wi_in h⟩
set_option maxRecDepth 100000 in
theorem wd_R_byteOf : st_wd me_R_byteOf := ⟨fun _ => List.mem_of_getElem? (i := 191) rfl, fun w h => Or.inr (pg_wi_in h), fun w h => pg_wi_in h⟩
set_option maxRecDepth 100000 in
theorem wd_R_hold : st_wd me_R_hold := ⟨fun _ => List.mem_of_getElem? (i := 297) rfl, fun w h => Or.inr (pg_wi_in h), fun w h => pg_wi_in h⟩
set_option maxRecDepth 100000 in
theorem wd_R_rightCharacters : st_wd me_R_rightCharacters := ⟨fun _ => List.mem_of_getElem? (i := 374) rfl, fun w h => Or.inr (pg_wi_in h), fun w h => pg_wi_in h⟩
set_option maxRecDepth 100000 in
theorem wd_R_isTermOperator : st_wd me_R_isTermOperator := ⟨fun _ => List.mem_of_getElem? (i := 400) rfl, fun w h => Or.inr (pg_wi_in h), fun w h => pg_wi_in h⟩
set_option maxRecDepth 100000 in
theorem wd_R_isNumber : st_wd me_R_isNumber := ⟨fun _ => List.mem_of_getElem? (i := 403) rfl, fun w h => Or.inr (pg_wi_in h), fun w h => pg_wi_in h⟩
set_option maxRecDepth 100000 in
theorem wd_R_begin : st_wd me_R_begin := ⟨fun _ => List.mem_of_getElem? (i := 407) rfl, fun w h => (List.mem_append.mp h).elim (fun h => Or.inl ((show ∀ w ∈ ([.selects "RefinementBench" ⟨"RefinementBench", "enter", "(LRefinementBench$Node;)I"⟩ ⟨"RefinementBench", "enter", "(LRefinementBench$Node;)I"⟩] : List Cond), w ∈ pg_xs from by decide +kernel) w h)) (fun h => Or.inr (pg_wi_in h)), fun w h => pg_wi_in h⟩
set_option maxRecDepth 100000 in
theorem wd_N_init : st_wd me_N_init := ⟨fun _ => List.mem_of_getElem? (i := 411) rfl, fun w h => Or.inr (pg_wi_in h), fun w h => pg_wi_in h⟩
set_option maxRecDepth 100000 in
theorem wd_R_enter : st_wd me_R_enter := ⟨fun _ => List.mem_of_getElem? (i := 440) rfl, fun w h => Or.inr (pg_wi_in h), fun w h => pg_wi_in h⟩
set_option maxRecDepth 100000 in
theorem wd_R_refine : st_wd me_R_refine := ⟨fun _ => List.mem_of_getElem? (i := 444) rfl, fun w h => (List.mem_append.mp h).elim (fun h => Or.inl ((show ∀ w ∈ ([.selects "RefinementBench" ⟨"RefinementBench", "find", "(I)LRefinementBench$Node;"⟩ ⟨"RefinementBench", "find", "(I)LRefinementBench$Node;"⟩, .selects "RefinementBench" ⟨"RefinementBench", "allows", "(LRefinementBench$Node;II)Z"⟩ ⟨"RefinementBench", "allows", "(LRefinementBench$Node;II)Z"⟩, .selects "RefinementBench" ⟨"RefinementBench", "stepBy", "(LRefinementBench$Node;II)LRefinementBench$Step;"⟩ ⟨"RefinementBench", "stepBy", "(LRefinementBench$Node;II)LRefinementBench$Step;"⟩, .selects "RefinementBench" ⟨"RefinementBench", "freeNumbers", "()I"⟩ ⟨"RefinementBench", "freeNumbers", "()I"⟩, .selects "RefinementBench" ⟨"RefinementBench", "enter", "(LRefinementBench$Node;)I"⟩ ⟨"RefinementBench", "enter", "(LRefinementBench$Node;)I"⟩] : List Cond), w ∈ pg_xs from by decide +kernel) w h)) (fun h => Or.inr (pg_wi_in h)), fun w h => pg_wi_in h⟩
set_option maxRecDepth 100000 in
theorem wd_R_find : st_wd me_R_find := ⟨fun _ => List.mem_of_getElem? (i := 448) rfl, fun w h => Or.inr (pg_wi_in h), fun w h => pg_wi_in h⟩
set_option maxRecDepth 100000 in
theorem wd_R_allows : st_wd me_R_allows := ⟨fun _ => List.mem_of_getElem? (i := 452) rfl, fun w h => Or.inr (pg_wi_in h), fun w h => pg_wi_in h⟩
set_option maxRecDepth 100000 in
theorem wd_N_mayChange : st_wd me_N_mayChange := ⟨fun _ => List.mem_of_getElem? (i := 456) rfl, fun w h => Or.inr (pg_wi_in h), fun w h => pg_wi_in h⟩
set_option maxRecDepth 100000 in
theorem wd_S_hasX : st_wd me_S_hasX := ⟨fun _ => List.mem_of_getElem? (i := 460) rfl, fun w h => Or.inr (pg_wi_in h), fun w h => pg_wi_in h⟩
set_option maxRecDepth 100000 in
theorem wd_N_isInLoop : st_wd me_N_isInLoop := ⟨fun _ => List.mem_of_getElem? (i := 519) rfl, fun w h => Or.inr (pg_wi_in h), fun w h => pg_wi_in h⟩
set_option maxRecDepth 100000 in
theorem wd_D_startAnew : st_wd me_D_startAnew := ⟨fun _ => List.mem_of_getElem? (i := 523) rfl, fun w h => Or.inr (pg_wi_in h), fun w h => pg_wi_in h⟩
set_option maxRecDepth 100000 in
theorem wd_R_stepBy : st_wd me_R_stepBy := ⟨fun _ => List.mem_of_getElem? (i := 527) rfl, fun w h => (List.mem_append.mp h).elim (fun h => Or.inl ((show ∀ w ∈ ([.selects "RefinementBench" ⟨"RefinementBench", "assign", "(LRefinementBench$Step;LRefinementBench$Node;I)V"⟩ ⟨"RefinementBench", "assign", "(LRefinementBench$Step;LRefinementBench$Node;I)V"⟩, .selects "RefinementBench" ⟨"RefinementBench", "alternate", "(LRefinementBench$Step;LRefinementBench$Node;Ljava/lang/String;)V"⟩ ⟨"RefinementBench", "alternate", "(LRefinementBench$Step;LRefinementBench$Node;Ljava/lang/String;)V"⟩, .selects "RefinementBench" ⟨"RefinementBench", "loop", "(LRefinementBench$Step;LRefinementBench$Node;Ljava/lang/String;)V"⟩ ⟨"RefinementBench", "loop", "(LRefinementBench$Step;LRefinementBench$Node;Ljava/lang/String;)V"⟩] : List Cond), w ∈ pg_xs from by decide +kernel) w h)) (fun h => Or.inr (pg_wi_in h)), fun w h => pg_wi_in h⟩
set_option maxRecDepth 100000 in
theorem wd_P_init : st_wd me_P_init := ⟨fun _ => List.mem_of_getElem? (i := 532) rfl, fun w h => Or.inr (pg_wi_in h), fun w h => pg_wi_in h⟩
set_option maxRecDepth 100000 in
theorem wd_D_put : st_wd me_D_put := ⟨fun _ => List.mem_of_getElem? (i := 577) rfl, fun w h => Or.inr (pg_wi_in h), fun w h => pg_wi_in h⟩
set_option maxRecDepth 100000 in
theorem wd_D_take : st_wd me_D_take := ⟨fun _ => List.mem_of_getElem? (i := 612) rfl, fun w h => Or.inr (pg_wi_in h), fun w h => pg_wi_in h⟩
set_option maxRecDepth 100000 in
theorem wd_R_assign : st_wd me_R_assign := ⟨fun _ => List.mem_of_getElem? (i := 619) rfl, fun w h => Or.inr (pg_wi_in h), fun w h => pg_wi_in h⟩
set_option maxRecDepth 100000 in
theorem wd_D_putWith : st_wd me_D_putWith := ⟨fun _ => List.mem_of_getElem? (i := 623) rfl, fun w h => Or.inr (pg_wi_in h), fun w h => pg_wi_in h⟩
set_option maxRecDepth 100000 in
theorem wd_R_alternate : st_wd me_R_alternate := ⟨fun _ => List.mem_of_getElem? (i := 630) rfl, fun w h => Or.inr (pg_wi_in h), fun w h => pg_wi_in h⟩
set_option maxRecDepth 100000 in
theorem wd_R_loop : st_wd me_R_loop := ⟨fun _ => List.mem_of_getElem? (i := 636) rfl, fun w h => Or.inr (pg_wi_in h), fun w h => pg_wi_in h⟩
set_option maxRecDepth 100000 in
theorem wd_R_freeNumbers : st_wd me_R_freeNumbers := ⟨fun _ => List.mem_of_getElem? (i := 645) rfl, fun w h => Or.inr (pg_wi_in h), fun w h => pg_wi_in h⟩
set_option maxRecDepth 100000 in
theorem wd_P_countChildren : st_wd me_P_countChildren := ⟨fun _ => List.mem_of_getElem? (i := 649) rfl, fun w h => Or.inr (pg_wi_in h), fun w h => pg_wi_in h⟩
set_option maxRecDepth 100000 in
theorem wd_R_prove : st_wd me_R_prove := ⟨fun _ => List.mem_of_getElem? (i := 653) rfl, fun w h => (List.mem_append.mp h).elim (fun h => Or.inl ((show ∀ w ∈ ([.selects "RefinementBench" ⟨"RefinementBench", "find", "(I)LRefinementBench$Node;"⟩ ⟨"RefinementBench", "find", "(I)LRefinementBench$Node;"⟩, .selects "RefinementBench" ⟨"RefinementBench", "isRefuted", "(Ljava/lang/String;)Z"⟩ ⟨"RefinementBench", "isRefuted", "(Ljava/lang/String;)Z"⟩] : List Cond), w ∈ pg_xs from by decide +kernel) w h)) (fun h => Or.inr (pg_wi_in h)), fun w h => pg_wi_in h⟩
set_option maxRecDepth 100000 in
theorem wd_R_isRefuted : st_wd me_R_isRefuted := ⟨fun _ => List.mem_of_getElem? (i := 657) rfl, fun w h => Or.inr (pg_wi_in h), fun w h => pg_wi_in h⟩
set_option maxRecDepth 100000 in
theorem wd_J_truths : st_wd me_J_truths := ⟨fun _ => List.mem_of_getElem? (i := 661) rfl, fun w h => (List.mem_append.mp h).elim (fun h => Or.inl ((show ∀ w ∈ ([.selects "RefinementBench$Judge" ⟨"RefinementBench$Judge", "weigh", "(Ljava/lang/String;III)V"⟩ ⟨"RefinementBench$Judge", "weigh", "(Ljava/lang/String;III)V"⟩] : List Cond), w ∈ pg_xs from by decide +kernel) w h)) (fun h => Or.inr (pg_wi_in h)), fun w h => pg_wi_in h⟩
set_option maxRecDepth 100000 in
theorem wd_J_weigh : st_wd me_J_weigh := ⟨fun _ => List.mem_of_getElem? (i := 665) rfl, fun w h => (List.mem_append.mp h).elim (fun h => Or.inl ((show ∀ w ∈ ([.selects "RefinementBench$Judge" ⟨"RefinementBench$Judge", "pileNumber", "(I)V"⟩ ⟨"RefinementBench$Judge", "pileNumber", "(I)V"⟩, .selects "RefinementBench$Judge" ⟨"RefinementBench$Judge", "pile", "(JJJ)V"⟩ ⟨"RefinementBench$Judge", "pile", "(JJJ)V"⟩, .selects "RefinementBench$Judge" ⟨"RefinementBench$Judge", "negate", "()V"⟩ ⟨"RefinementBench$Judge", "negate", "()V"⟩, .selects "RefinementBench$Judge" ⟨"RefinementBench$Judge", "join", "(C)V"⟩ ⟨"RefinementBench$Judge", "join", "(C)V"⟩] : List Cond), w ∈ pg_xs from by decide +kernel) w h)) (fun h => Or.inr (pg_wi_in h)), fun w h => pg_wi_in h⟩
set_option maxRecDepth 100000 in
theorem wd_J_pileNumber : st_wd me_J_pileNumber := ⟨fun _ => List.mem_of_getElem? (i := 671) rfl, fun w h => (List.mem_append.mp h).elim (fun h => Or.inl ((show ∀ w ∈ ([.selects "RefinementBench$Judge" ⟨"RefinementBench$Judge", "pile", "(JJJ)V"⟩ ⟨"RefinementBench$Judge", "pile", "(JJJ)V"⟩] : List Cond), w ∈ pg_xs from by decide +kernel) w h)) (fun h => Or.inr (pg_wi_in h)), fun w h => pg_wi_in h⟩
set_option maxRecDepth 100000 in
theorem wd_J_pile : st_wd me_J_pile := ⟨fun _ => List.mem_of_getElem? (i := 675) rfl, fun w h => Or.inr (pg_wi_in h), fun w h => pg_wi_in h⟩
set_option maxRecDepth 100000 in
theorem wd_J_negate : st_wd me_J_negate := ⟨fun _ => List.mem_of_getElem? (i := 686) rfl, fun w h => Or.inr (pg_wi_in h), fun w h => pg_wi_in h⟩
set_option maxRecDepth 100000 in
theorem wd_J_join : st_wd me_J_join := ⟨fun _ => List.mem_of_getElem? (i := 690) rfl, fun w h => (List.mem_append.mp h).elim (fun h => Or.inl ((show ∀ w ∈ ([.selects "RefinementBench$Judge" ⟨"RefinementBench$Judge", "add", "(II)V"⟩ ⟨"RefinementBench$Judge", "add", "(II)V"⟩, .selects "RefinementBench$Judge" ⟨"RefinementBench$Judge", "subtract", "(II)V"⟩ ⟨"RefinementBench$Judge", "subtract", "(II)V"⟩, .selects "RefinementBench$Judge" ⟨"RefinementBench$Judge", "multiply", "(II)V"⟩ ⟨"RefinementBench$Judge", "multiply", "(II)V"⟩, .selects "RefinementBench$Judge" ⟨"RefinementBench$Judge", "compare", "(II)V"⟩ ⟨"RefinementBench$Judge", "compare", "(II)V"⟩] : List Cond), w ∈ pg_xs from by decide +kernel) w h)) (fun h => Or.inr (pg_wi_in h)), fun w h => pg_wi_in h⟩
set_option maxRecDepth 100000 in
theorem wd_J_add : st_wd me_J_add := ⟨fun _ => List.mem_of_getElem? (i := 694) rfl, fun w h => Or.inr (pg_wi_in h), fun w h => pg_wi_in h⟩
set_option maxRecDepth 100000 in
theorem wd_J_subtract : st_wd me_J_subtract := ⟨fun _ => List.mem_of_getElem? (i := 698) rfl, fun w h => Or.inr (pg_wi_in h), fun w h => pg_wi_in h⟩
set_option maxRecDepth 100000 in
theorem wd_J_borrow : st_wd me_J_borrow := ⟨fun _ => List.mem_of_getElem? (i := 701) rfl, fun w h => Or.inr (pg_wi_in h), fun w h => pg_wi_in h⟩
set_option maxRecDepth 100000 in
theorem wd_J_multiply : st_wd me_J_multiply := ⟨fun _ => List.mem_of_getElem? (i := 705) rfl, fun w h => Or.inr (pg_wi_in h), fun w h => pg_wi_in h⟩
set_option maxRecDepth 100000 in
theorem wd_J_compare : st_wd me_J_compare := ⟨fun _ => List.mem_of_getElem? (i := 709) rfl, fun w h => Or.inr (pg_wi_in h), fun w h => pg_wi_in h⟩
set_option maxRecDepth 100000 in
theorem wd_R_refuting : st_wd me_R_refuting := ⟨fun _ => List.mem_of_getElem? (i := 721) rfl, fun w h => Or.inr (pg_wi_in h), fun w h => pg_wi_in h⟩
set_option maxRecDepth 100000 in
theorem wd_R_open : st_wd me_R_open := ⟨fun _ => List.mem_of_getElem? (i := 725) rfl, fun w h => Or.inr (pg_wi_in h), fun w h => pg_wi_in h⟩
set_option maxRecDepth 100000 in
theorem wd_N_countOpen : st_wd me_N_countOpen := ⟨fun _ => List.mem_of_getElem? (i := 729) rfl, fun w h => Or.inr (pg_wi_in h), fun w h => pg_wi_in h⟩
set_option maxRecDepth 100000 in
theorem wd_P_countConditions : st_wd me_P_countConditions := ⟨fun _ => List.mem_of_getElem? (i := 733) rfl, fun w h => Or.inr (pg_wi_in h), fun w h => pg_wi_in h⟩
set_option maxRecDepth 100000 in
theorem wd_R_first : st_wd me_R_first := ⟨fun _ => List.mem_of_getElem? (i := 737) rfl, fun w h => Or.inr (pg_wi_in h), fun w h => pg_wi_in h⟩
set_option maxRecDepth 100000 in
theorem wd_R_prune : st_wd me_R_prune := ⟨fun _ => List.mem_of_getElem? (i := 741) rfl, fun w h => (List.mem_append.mp h).elim (fun h => Or.inl ((show ∀ w ∈ ([.selects "RefinementBench" ⟨"RefinementBench", "find", "(I)LRefinementBench$Node;"⟩ ⟨"RefinementBench", "find", "(I)LRefinementBench$Node;"⟩] : List Cond), w ∈ pg_xs from by decide +kernel) w h)) (fun h => Or.inr (pg_wi_in h)), fun w h => pg_wi_in h⟩
set_option maxRecDepth 100000 in
theorem wd_N_cameOf : st_wd me_N_cameOf := ⟨fun _ => List.mem_of_getElem? (i := 745) rfl, fun w h => Or.inr (pg_wi_in h), fun w h => pg_wi_in h⟩
set_option maxRecDepth 100000 in
theorem wd_R_node : st_wd me_R_node := ⟨fun _ => List.mem_of_getElem? (i := 749) rfl, fun w h => (List.mem_append.mp h).elim (fun h => Or.inl ((show ∀ w ∈ ([.selects "RefinementBench" ⟨"RefinementBench", "find", "(I)LRefinementBench$Node;"⟩ ⟨"RefinementBench", "find", "(I)LRefinementBench$Node;"⟩] : List Cond), w ∈ pg_xs from by decide +kernel) w h)) (fun h => Or.inr (pg_wi_in h)), fun w h => pg_wi_in h⟩
set_option maxRecDepth 100000 in
theorem wd_R_numberOf : st_wd me_R_numberOf := ⟨fun _ => List.mem_of_getElem? (i := 752) rfl, fun w h => Or.inr (pg_wi_in h), fun w h => pg_wi_in h⟩
set_option maxRecDepth 100000 in
theorem wd_R_text : st_wd me_R_text := ⟨fun _ => List.mem_of_getElem? (i := 757) rfl, fun w h => (List.mem_append.mp h).elim (fun h => Or.inl ((show ∀ w ∈ ([.selects "RefinementBench" ⟨"RefinementBench", "find", "(I)LRefinementBench$Node;"⟩ ⟨"RefinementBench", "find", "(I)LRefinementBench$Node;"⟩] : List Cond), w ∈ pg_xs from by decide +kernel) w h)) (fun h => Or.inr (pg_wi_in h)), fun w h => pg_wi_in h⟩
set_option maxRecDepth 100000 in
theorem wd_N_writing : st_wd me_N_writing := ⟨fun _ => List.mem_of_getElem? (i := 761) rfl, fun w h => Or.inr (pg_wi_in h), fun w h => pg_wi_in h⟩
set_option maxRecDepth 100000 in
theorem wd_R_program : st_wd me_R_program := ⟨fun _ => List.mem_of_getElem? (i := 765) rfl, fun w h => (List.mem_append.mp h).elim (fun h => Or.inl ((show ∀ w ∈ ([.selects "RefinementBench" ⟨"RefinementBench", "layOutProgram", "()Z"⟩ ⟨"RefinementBench", "layOutProgram", "()Z"⟩] : List Cond), w ∈ pg_xs from by decide +kernel) w h)) (fun h => Or.inr (pg_wi_in h)), fun w h => pg_wi_in h⟩
set_option maxRecDepth 100000 in
theorem wd_R_layOutProgram : st_wd me_R_layOutProgram := ⟨fun _ => List.mem_of_getElem? (i := 769) rfl, fun w h => Or.inr (pg_wi_in h), fun w h => pg_wi_in h⟩
set_option maxRecDepth 100000 in
theorem wd_C_layOut : st_wd me_C_layOut := ⟨fun _ => List.mem_of_getElem? (i := 774) rfl, fun w h => (List.mem_append.mp h).elim (fun h => Or.inl ((show ∀ w ∈ ([.selects "RefinementBench$Code" ⟨"RefinementBench$Code", "layOutNode", "(LRefinementBench$Node;I)V"⟩ ⟨"RefinementBench$Code", "layOutNode", "(LRefinementBench$Node;I)V"⟩, .selects "RefinementBench$Code" ⟨"RefinementBench$Code", "add", "(IILjava/lang/String;)I"⟩ ⟨"RefinementBench$Code", "add", "(IILjava/lang/String;)I"⟩] : List Cond), w ∈ pg_xs from by decide +kernel) w h)) (fun h => Or.inr (pg_wi_in h)), fun w h => pg_wi_in h⟩
set_option maxRecDepth 100000 in
theorem wd_C_layOutNode : st_wd me_C_layOutNode := ⟨fun _ => List.mem_of_getElem? (i := 778) rfl, fun w h => (List.mem_append.mp h).elim (fun h => Or.inl ((show ∀ w ∈ ([.selects "RefinementBench$Code" ⟨"RefinementBench$Code", "add", "(IILjava/lang/String;)I"⟩ ⟨"RefinementBench$Code", "add", "(IILjava/lang/String;)I"⟩, .selects "RefinementBench$Code" ⟨"RefinementBench$Code", "layOutAlternative", "(LRefinementBench$Step;I)V"⟩ ⟨"RefinementBench$Code", "layOutAlternative", "(LRefinementBench$Step;I)V"⟩, .selects "RefinementBench$Code" ⟨"RefinementBench$Code", "layOutLoop", "(LRefinementBench$Step;I)V"⟩ ⟨"RefinementBench$Code", "layOutLoop", "(LRefinementBench$Step;I)V"⟩, .selects "RefinementBench$Code" ⟨"RefinementBench$Code", "layOutNode", "(LRefinementBench$Node;I)V"⟩ ⟨"RefinementBench$Code", "layOutNode", "(LRefinementBench$Node;I)V"⟩] : List Cond), w ∈ pg_xs from by decide +kernel) w h)) (fun h => Or.inr (pg_wi_in h)), fun w h => pg_wi_in h⟩
set_option maxRecDepth 100000 in
theorem wd_C_add : st_wd me_C_add := ⟨fun _ => List.mem_of_getElem? (i := 782) rfl, fun w h => Or.inr (pg_wi_in h), fun w h => pg_wi_in h⟩
set_option maxRecDepth 100000 in
theorem wd_C_layOutAlternative : st_wd me_C_layOutAlternative := ⟨fun _ => List.mem_of_getElem? (i := 786) rfl, fun w h => (List.mem_append.mp h).elim (fun h => Or.inl ((show ∀ w ∈ ([.selects "RefinementBench$Code" ⟨"RefinementBench$Code", "add", "(IILjava/lang/String;)I"⟩ ⟨"RefinementBench$Code", "add", "(IILjava/lang/String;)I"⟩, .selects "RefinementBench$Code" ⟨"RefinementBench$Code", "layOutNode", "(LRefinementBench$Node;I)V"⟩ ⟨"RefinementBench$Code", "layOutNode", "(LRefinementBench$Node;I)V"⟩] : List Cond), w ∈ pg_xs from by decide +kernel) w h)) (fun h => Or.inr (pg_wi_in h)), fun w h => pg_wi_in h⟩
set_option maxRecDepth 100000 in
theorem wd_C_layOutLoop : st_wd me_C_layOutLoop := ⟨fun _ => List.mem_of_getElem? (i := 790) rfl, fun w h => (List.mem_append.mp h).elim (fun h => Or.inl ((show ∀ w ∈ ([.selects "RefinementBench$Code" ⟨"RefinementBench$Code", "add", "(IILjava/lang/String;)I"⟩ ⟨"RefinementBench$Code", "add", "(IILjava/lang/String;)I"⟩, .selects "RefinementBench$Code" ⟨"RefinementBench$Code", "layOutNode", "(LRefinementBench$Node;I)V"⟩ ⟨"RefinementBench$Code", "layOutNode", "(LRefinementBench$Node;I)V"⟩] : List Cond), w ∈ pg_xs from by decide +kernel) w h)) (fun h => Or.inr (pg_wi_in h)), fun w h => pg_wi_in h⟩
set_option maxRecDepth 100000 in
theorem wd_R_instruction : st_wd me_R_instruction := ⟨fun _ => List.mem_of_getElem? (i := 794) rfl, fun w h => (List.mem_append.mp h).elim (fun h => Or.inl ((show ∀ w ∈ ([.selects "RefinementBench" ⟨"RefinementBench", "layOutProgram", "()Z"⟩ ⟨"RefinementBench", "layOutProgram", "()Z"⟩] : List Cond), w ∈ pg_xs from by decide +kernel) w h)) (fun h => Or.inr (pg_wi_in h)), fun w h => pg_wi_in h⟩
set_option maxRecDepth 100000 in
theorem wd_R_run : st_wd me_R_run := ⟨fun _ => List.mem_of_getElem? (i := 798) rfl, fun w h => (List.mem_append.mp h).elim (fun h => Or.inl ((show ∀ w ∈ ([.selects "RefinementBench" ⟨"RefinementBench", "layOutProgram", "()Z"⟩ ⟨"RefinementBench", "layOutProgram", "()Z"⟩] : List Cond), w ∈ pg_xs from by decide +kernel) w h)) (fun h => Or.inr (pg_wi_in h)), fun w h => pg_wi_in h⟩
set_option maxRecDepth 100000 in
theorem wd_C_isEnd : st_wd me_C_isEnd := ⟨fun _ => List.mem_of_getElem? (i := 802) rfl, fun w h => Or.inr (pg_wi_in h), fun w h => pg_wi_in h⟩
set_option maxRecDepth 100000 in
theorem wd_C_next : st_wd me_C_next := ⟨fun _ => List.mem_of_getElem? (i := 806) rfl, fun w h => Or.inr (pg_wi_in h), fun w h => pg_wi_in h⟩
set_option maxRecDepth 100000 in
theorem wd_J_number : st_wd me_J_number := ⟨fun _ => List.mem_of_getElem? (i := 810) rfl, fun w h => (List.mem_append.mp h).elim (fun h => Or.inl ((show ∀ w ∈ ([.selects "RefinementBench$Judge" ⟨"RefinementBench$Judge", "weigh", "(Ljava/lang/String;III)V"⟩ ⟨"RefinementBench$Judge", "weigh", "(Ljava/lang/String;III)V"⟩] : List Cond), w ∈ pg_xs from by decide +kernel) w h)) (fun h => Or.inr (pg_wi_in h)), fun w h => pg_wi_in h⟩
set_option maxRecDepth 100000 in
theorem wd_R_after : st_wd me_R_after := ⟨fun _ => List.mem_of_getElem? (i := 817) rfl, fun w h => Or.inr (pg_wi_in h), fun w h => pg_wi_in h⟩
set_option maxRecDepth 100000 in
theorem wd_M_init : st_wd me_M_init := ⟨fun _ => List.mem_of_getElem? (i := 822) rfl, fun w h => Or.inr (pg_wi_in h), fun w h => pg_wi_in h⟩
set_option maxRecDepth 100000 in
theorem wd_M_type : st_wd me_M_type := ⟨fun _ => List.mem_of_getElem? (i := 925) rfl, fun w h => Or.inr (pg_wi_in h), fun w h => pg_wi_in h⟩
set_option maxRecDepth 100000 in
theorem wd_M_hold : st_wd me_M_hold := ⟨fun _ => List.mem_of_getElem? (i := 930) rfl, fun w h => (List.mem_append.mp h).elim (fun h => Or.inl ((show ∀ w ∈ ([.selects "RefinementBenchModel" ⟨"RefinementBenchModel", "wrong", "(I)I"⟩ ⟨"RefinementBenchModel", "wrong", "(I)I"⟩] : List Cond), w ∈ pg_xs from by decide +kernel) w h)) (fun h => Or.inr (pg_wi_in h)), fun w h => pg_wi_in h⟩
set_option maxRecDepth 100000 in
theorem wd_M_wrong : st_wd me_M_wrong := ⟨fun _ => List.mem_of_getElem? (i := 934) rfl, fun w h => Or.inr (pg_wi_in h), fun w h => pg_wi_in h⟩
set_option maxRecDepth 100000 in
theorem wd_M_wants : st_wd me_M_wants := ⟨fun _ => List.mem_of_getElem? (i := 937) rfl, fun w h => Or.inr (pg_wi_in h), fun w h => pg_wi_in h⟩
set_option maxRecDepth 100000 in
theorem wd_M_isLetter : st_wd me_M_isLetter := ⟨fun _ => List.mem_of_getElem? (i := 940) rfl, fun w h => Or.inr (pg_wi_in h), fun w h => pg_wi_in h⟩
set_option maxRecDepth 100000 in
theorem wd_M_begin : st_wd me_M_begin := ⟨fun _ => List.mem_of_getElem? (i := 944) rfl, fun w h => (List.mem_append.mp h).elim (fun h => Or.inl ((show ∀ w ∈ ([.selects "RefinementBenchModel" ⟨"RefinementBenchModel", "place", "(III)V"⟩ ⟨"RefinementBenchModel", "place", "(III)V"⟩, .selects "RefinementBenchModel" ⟨"RefinementBenchModel", "copy", "(III)V"⟩ ⟨"RefinementBenchModel", "copy", "(III)V"⟩] : List Cond), w ∈ pg_xs from by decide +kernel) w h)) (fun h => Or.inr (pg_wi_in h)), fun w h => pg_wi_in h⟩
set_option maxRecDepth 100000 in
theorem wd_M_place : st_wd me_M_place := ⟨fun _ => List.mem_of_getElem? (i := 948) rfl, fun w h => Or.inr (pg_wi_in h), fun w h => pg_wi_in h⟩
set_option maxRecDepth 100000 in
theorem wd_M_placeOf : st_wd me_M_placeOf := ⟨fun _ => List.mem_of_getElem? (i := 951) rfl, fun w h => Or.inr (pg_wi_in h), fun w h => pg_wi_in h⟩
set_option maxRecDepth 100000 in
theorem wd_M_copy : st_wd me_M_copy := ⟨fun _ => List.mem_of_getElem? (i := 955) rfl, fun w h => Or.inr (pg_wi_in h), fun w h => pg_wi_in h⟩
set_option maxRecDepth 100000 in
theorem wd_M_lengthAt : st_wd me_M_lengthAt := ⟨fun _ => List.mem_of_getElem? (i := 958) rfl, fun w h => Or.inr (pg_wi_in h), fun w h => pg_wi_in h⟩
set_option maxRecDepth 100000 in
theorem wd_M_refine : st_wd me_M_refine := ⟨fun _ => List.mem_of_getElem? (i := 962) rfl, fun w h => (List.mem_append.mp h).elim (fun h => Or.inl ((show ∀ w ∈ ([.selects "RefinementBenchModel" ⟨"RefinementBenchModel", "isNode", "(I)Z"⟩ ⟨"RefinementBenchModel", "isNode", "(I)Z"⟩, .selects "RefinementBenchModel" ⟨"RefinementBenchModel", "isAsSaid", "(III)Z"⟩ ⟨"RefinementBenchModel", "isAsSaid", "(III)Z"⟩, .selects "RefinementBenchModel" ⟨"RefinementBenchModel", "make", "(III)V"⟩ ⟨"RefinementBenchModel", "make", "(III)V"⟩, .selects "RefinementBenchModel" ⟨"RefinementBenchModel", "hasRoom", "()Z"⟩ ⟨"RefinementBenchModel", "hasRoom", "()Z"⟩, .selects "RefinementBenchModel" ⟨"RefinementBenchModel", "copy", "(III)V"⟩ ⟨"RefinementBenchModel", "copy", "(III)V"⟩, .selects "RefinementBenchModel" ⟨"RefinementBenchModel", "child", "(III)I"⟩ ⟨"RefinementBenchModel", "child", "(III)I"⟩] : List Cond), w ∈ pg_xs from by decide +kernel) w h)) (fun h => Or.inr (pg_wi_in h)), fun w h => pg_wi_in h⟩
set_option maxRecDepth 100000 in
theorem wd_M_isNode : st_wd me_M_isNode := ⟨fun _ => List.mem_of_getElem? (i := 966) rfl, fun w h => Or.inr (pg_wi_in h), fun w h => pg_wi_in h⟩
set_option maxRecDepth 100000 in
theorem wd_M_isAsSaid : st_wd me_M_isAsSaid := ⟨fun _ => List.mem_of_getElem? (i := 970) rfl, fun w h => (List.mem_append.mp h).elim (fun h => Or.inl ((show ∀ w ∈ ([.selects "RefinementBenchModel" ⟨"RefinementBenchModel", "slotHas", "(II)Z"⟩ ⟨"RefinementBenchModel", "slotHas", "(II)Z"⟩, .selects "RefinementBenchModel" ⟨"RefinementBenchModel", "isInLoop", "(I)Z"⟩ ⟨"RefinementBenchModel", "isInLoop", "(I)Z"⟩] : List Cond), w ∈ pg_xs from by decide +kernel) w h)) (fun h => Or.inr (pg_wi_in h)), fun w h => pg_wi_in h⟩
set_option maxRecDepth 100000 in
theorem wd_M_slotHas : st_wd me_M_slotHas := ⟨fun _ => List.mem_of_getElem? (i := 974) rfl, fun w h => Or.inr (pg_wi_in h), fun w h => pg_wi_in h⟩
set_option maxRecDepth 100000 in
theorem wd_M_isInLoop : st_wd me_M_isInLoop := ⟨fun _ => List.mem_of_getElem? (i := 978) rfl, fun w h => Or.inr (pg_wi_in h), fun w h => pg_wi_in h⟩
set_option maxRecDepth 100000 in
theorem wd_M_make : st_wd me_M_make := ⟨fun _ => List.mem_of_getElem? (i := 982) rfl, fun w h => (List.mem_append.mp h).elim (fun h => Or.inl ((show ∀ w ∈ ([.selects "RefinementBenchModel" ⟨"RefinementBenchModel", "openCondition", "()V"⟩ ⟨"RefinementBenchModel", "openCondition", "()V"⟩, .selects "RefinementBenchModel" ⟨"RefinementBenchModel", "putNode", "(II)V"⟩ ⟨"RefinementBenchModel", "putNode", "(II)V"⟩, .selects "RefinementBenchModel" ⟨"RefinementBenchModel", "putReplaced", "(II)V"⟩ ⟨"RefinementBenchModel", "putReplaced", "(II)V"⟩, .selects "RefinementBenchModel" ⟨"RefinementBenchModel", "makeSequence", "(I)V"⟩ ⟨"RefinementBenchModel", "makeSequence", "(I)V"⟩, .selects "RefinementBenchModel" ⟨"RefinementBenchModel", "makeAlternative", "(I)V"⟩ ⟨"RefinementBenchModel", "makeAlternative", "(I)V"⟩, .selects "RefinementBenchModel" ⟨"RefinementBenchModel", "makeLoop", "(I)V"⟩ ⟨"RefinementBenchModel", "makeLoop", "(I)V"⟩, .selects "RefinementBenchModel" ⟨"RefinementBenchModel", "makeOne", "(II)V"⟩ ⟨"RefinementBenchModel", "makeOne", "(II)V"⟩] : List Cond), w ∈ pg_xs from by decide +kernel) w h)) (fun h => Or.inr (pg_wi_in h)), fun w h => pg_wi_in h⟩
set_option maxRecDepth 100000 in
theorem wd_M_openCondition : st_wd me_M_openCondition := ⟨fun _ => List.mem_of_getElem? (i := 986) rfl, fun w h => (List.mem_append.mp h).elim (fun h => Or.inl ((show ∀ w ∈ ([.selects "RefinementBenchModel" ⟨"RefinementBenchModel", "openText", "(I)V"⟩ ⟨"RefinementBenchModel", "openText", "(I)V"⟩, .selects "RefinementBenchModel" ⟨"RefinementBenchModel", "put", "(I)V"⟩ ⟨"RefinementBenchModel", "put", "(I)V"⟩] : List Cond), w ∈ pg_xs from by decide +kernel) w h)) (fun h => Or.inr (pg_wi_in h)), fun w h => pg_wi_in h⟩
set_option maxRecDepth 100000 in
theorem wd_M_openText : st_wd me_M_openText := ⟨fun _ => List.mem_of_getElem? (i := 990) rfl, fun w h => Or.inr (pg_wi_in h), fun w h => pg_wi_in h⟩
set_option maxRecDepth 100000 in
theorem wd_M_put : st_wd me_M_put := ⟨fun _ => List.mem_of_getElem? (i := 994) rfl, fun w h => Or.inr (pg_wi_in h), fun w h => pg_wi_in h⟩
set_option maxRecDepth 100000 in
theorem wd_M_putNode : st_wd me_M_putNode := ⟨fun _ => List.mem_of_getElem? (i := 998) rfl, fun w h => (List.mem_append.mp h).elim (fun h => Or.inl ((show ∀ w ∈ ([.selects "RefinementBenchModel" ⟨"RefinementBenchModel", "putText", "(II)V"⟩ ⟨"RefinementBenchModel", "putText", "(II)V"⟩] : List Cond), w ∈ pg_xs from by decide +kernel) w h)) (fun h => Or.inr (pg_wi_in h)), fun w h => pg_wi_in h⟩
set_option maxRecDepth 100000 in
theorem wd_M_putText : st_wd me_M_putText := ⟨fun _ => List.mem_of_getElem? (i := 1002) rfl, fun w h => (List.mem_append.mp h).elim (fun h => Or.inl ((show ∀ w ∈ ([.selects "RefinementBenchModel" ⟨"RefinementBenchModel", "put", "(I)V"⟩ ⟨"RefinementBenchModel", "put", "(I)V"⟩] : List Cond), w ∈ pg_xs from by decide +kernel) w h)) (fun h => Or.inr (pg_wi_in h)), fun w h => pg_wi_in h⟩
set_option maxRecDepth 100000 in
theorem wd_M_putReplaced : st_wd me_M_putReplaced := ⟨fun _ => List.mem_of_getElem? (i := 1006) rfl, fun w h => (List.mem_append.mp h).elim (fun h => Or.inl ((show ∀ w ∈ ([.selects "RefinementBenchModel" ⟨"RefinementBenchModel", "putSlot", "(I)V"⟩ ⟨"RefinementBenchModel", "putSlot", "(I)V"⟩, .selects "RefinementBenchModel" ⟨"RefinementBenchModel", "put", "(I)V"⟩ ⟨"RefinementBenchModel", "put", "(I)V"⟩] : List Cond), w ∈ pg_xs from by decide +kernel) w h)) (fun h => Or.inr (pg_wi_in h)), fun w h => pg_wi_in h⟩
set_option maxRecDepth 100000 in
theorem wd_M_putSlot : st_wd me_M_putSlot := ⟨fun _ => List.mem_of_getElem? (i := 1010) rfl, fun w h => (List.mem_append.mp h).elim (fun h => Or.inl ((show ∀ w ∈ ([.selects "RefinementBenchModel" ⟨"RefinementBenchModel", "putText", "(II)V"⟩ ⟨"RefinementBenchModel", "putText", "(II)V"⟩] : List Cond), w ∈ pg_xs from by decide +kernel) w h)) (fun h => Or.inr (pg_wi_in h)), fun w h => pg_wi_in h⟩
set_option maxRecDepth 100000 in
theorem wd_M_makeSequence : st_wd me_M_makeSequence := ⟨fun _ => List.mem_of_getElem? (i := 1014) rfl, fun w h => (List.mem_append.mp h).elim (fun h => Or.inl ((show ∀ w ∈ ([.selects "RefinementBenchModel" ⟨"RefinementBenchModel", "openText", "(I)V"⟩ ⟨"RefinementBenchModel", "openText", "(I)V"⟩, .selects "RefinementBenchModel" ⟨"RefinementBenchModel", "putNode", "(II)V"⟩ ⟨"RefinementBenchModel", "putNode", "(II)V"⟩, .selects "RefinementBenchModel" ⟨"RefinementBenchModel", "putSlot", "(I)V"⟩ ⟨"RefinementBenchModel", "putSlot", "(I)V"⟩] : List Cond), w ∈ pg_xs from by decide +kernel) w h)) (fun h => Or.inr (pg_wi_in h)), fun w h => pg_wi_in h⟩
set_option maxRecDepth 100000 in
theorem wd_M_makeAlternative : st_wd me_M_makeAlternative := ⟨fun _ => List.mem_of_getElem? (i := 1018) rfl, fun w h => (List.mem_append.mp h).elim (fun h => Or.inl ((show ∀ w ∈ ([.selects "RefinementBenchModel" ⟨"RefinementBenchModel", "openText", "(I)V"⟩ ⟨"RefinementBenchModel", "openText", "(I)V"⟩, .selects "RefinementBenchModel" ⟨"RefinementBenchModel", "put", "(I)V"⟩ ⟨"RefinementBenchModel", "put", "(I)V"⟩, .selects "RefinementBenchModel" ⟨"RefinementBenchModel", "putNode", "(II)V"⟩ ⟨"RefinementBenchModel", "putNode", "(II)V"⟩, .selects "RefinementBenchModel" ⟨"RefinementBenchModel", "putSlot", "(I)V"⟩ ⟨"RefinementBenchModel", "putSlot", "(I)V"⟩] : List Cond), w ∈ pg_xs from by decide +kernel) w h)) (fun h => Or.inr (pg_wi_in h)), fun w h => pg_wi_in h⟩
set_option maxRecDepth 100000 in
theorem wd_M_makeLoop : st_wd me_M_makeLoop := ⟨fun _ => List.mem_of_getElem? (i := 1022) rfl, fun w h => (List.mem_append.mp h).elim (fun h => Or.inl ((show ∀ w ∈ ([.selects "RefinementBenchModel" ⟨"RefinementBenchModel", "openText", "(I)V"⟩ ⟨"RefinementBenchModel", "openText", "(I)V"⟩, .selects "RefinementBenchModel" ⟨"RefinementBenchModel", "put", "(I)V"⟩ ⟨"RefinementBenchModel", "put", "(I)V"⟩, .selects "RefinementBenchModel" ⟨"RefinementBenchModel", "putSlot", "(I)V"⟩ ⟨"RefinementBenchModel", "putSlot", "(I)V"⟩, .selects "RefinementBenchModel" ⟨"RefinementBenchModel", "openCondition", "()V"⟩ ⟨"RefinementBenchModel", "openCondition", "()V"⟩, .selects "RefinementBenchModel" ⟨"RefinementBenchModel", "putNode", "(II)V"⟩ ⟨"RefinementBenchModel", "putNode", "(II)V"⟩] : List Cond), w ∈ pg_xs from by decide +kernel) w h)) (fun h => Or.inr (pg_wi_in h)), fun w h => pg_wi_in h⟩
set_option maxRecDepth 100000 in
theorem wd_M_makeOne : st_wd me_M_makeOne := ⟨fun _ => List.mem_of_getElem? (i := 1026) rfl, fun w h => (List.mem_append.mp h).elim (fun h => Or.inl ((show ∀ w ∈ ([.selects "RefinementBenchModel" ⟨"RefinementBenchModel", "openText", "(I)V"⟩ ⟨"RefinementBenchModel", "openText", "(I)V"⟩, .selects "RefinementBenchModel" ⟨"RefinementBenchModel", "putSlot", "(I)V"⟩ ⟨"RefinementBenchModel", "putSlot", "(I)V"⟩, .selects "RefinementBenchModel" ⟨"RefinementBenchModel", "putNode", "(II)V"⟩ ⟨"RefinementBenchModel", "putNode", "(II)V"⟩, .selects "RefinementBenchModel" ⟨"RefinementBenchModel", "openCondition", "()V"⟩ ⟨"RefinementBenchModel", "openCondition", "()V"⟩] : List Cond), w ∈ pg_xs from by decide +kernel) w h)) (fun h => Or.inr (pg_wi_in h)), fun w h => pg_wi_in h⟩
set_option maxRecDepth 100000 in
theorem wd_M_hasRoom : st_wd me_M_hasRoom := ⟨fun _ => List.mem_of_getElem? (i := 1030) rfl, fun w h => Or.inr (pg_wi_in h), fun w h => pg_wi_in h⟩
set_option maxRecDepth 100000 in
theorem wd_M_child : st_wd me_M_child := ⟨fun _ => List.mem_of_getElem? (i := 1034) rfl, fun w h => (List.mem_append.mp h).elim (fun h => Or.inl ((show ∀ w ∈ ([.selects "RefinementBenchModel" ⟨"RefinementBenchModel", "freeNode", "()I"⟩ ⟨"RefinementBenchModel", "freeNode", "()I"⟩, .selects "RefinementBenchModel" ⟨"RefinementBenchModel", "place", "(III)V"⟩ ⟨"RefinementBenchModel", "place", "(III)V"⟩, .selects "RefinementBenchModel" ⟨"RefinementBenchModel", "copy", "(III)V"⟩ ⟨"RefinementBenchModel", "copy", "(III)V"⟩] : List Cond), w ∈ pg_xs from by decide +kernel) w h)) (fun h => Or.inr (pg_wi_in h)), fun w h => pg_wi_in h⟩
set_option maxRecDepth 100000 in
theorem wd_M_freeNode : st_wd me_M_freeNode := ⟨fun _ => List.mem_of_getElem? (i := 1038) rfl, fun w h => Or.inr (pg_wi_in h), fun w h => pg_wi_in h⟩
set_option maxRecDepth 100000 in
theorem wd_M_prove : st_wd me_M_prove := ⟨fun _ => List.mem_of_getElem? (i := 1042) rfl, fun w h => (List.mem_append.mp h).elim (fun h => Or.inl ((show ∀ w ∈ ([.selects "RefinementBenchModel" ⟨"RefinementBenchModel", "isNode", "(I)Z"⟩ ⟨"RefinementBenchModel", "isNode", "(I)Z"⟩, .selects "RefinementBenchModel" ⟨"RefinementBenchModel", "isValid", "(II)Z"⟩ ⟨"RefinementBenchModel", "isValid", "(II)Z"⟩] : List Cond), w ∈ pg_xs from by decide +kernel) w h)) (fun h => Or.inr (pg_wi_in h)), fun w h => pg_wi_in h⟩
set_option maxRecDepth 100000 in
theorem wd_M_isValid : st_wd me_M_isValid := ⟨fun _ => List.mem_of_getElem? (i := 1046) rfl, fun w h => (List.mem_append.mp h).elim (fun h => Or.inl ((show ∀ w ∈ ([.selects "RefinementBenchModel" ⟨"RefinementBenchModel", "worked", "(II)I"⟩ ⟨"RefinementBenchModel", "worked", "(II)I"⟩, .selects "RefinementBenchModel" ⟨"RefinementBenchModel", "advance", "(II)Z"⟩ ⟨"RefinementBenchModel", "advance", "(II)Z"⟩] : List Cond), w ∈ pg_xs from by decide +kernel) w h)) (fun h => Or.inr (pg_wi_in h)), fun w h => pg_wi_in h⟩
set_option maxRecDepth 100000 in
theorem wd_M_worked : st_wd me_M_worked := ⟨fun _ => List.mem_of_getElem? (i := 1050) rfl, fun w h => (List.mem_append.mp h).elim (fun h => Or.inl ((show ∀ w ∈ ([.selects "RefinementBenchModel" ⟨"RefinementBenchModel", "step", "(I)V"⟩ ⟨"RefinementBenchModel", "step", "(I)V"⟩] : List Cond), w ∈ pg_xs from by decide +kernel) w h)) (fun h => Or.inr (pg_wi_in h)), fun w h => pg_wi_in h⟩
set_option maxRecDepth 100000 in
theorem wd_M_step : st_wd me_M_step := ⟨fun _ => List.mem_of_getElem? (i := 1054) rfl, fun w h => (List.mem_append.mp h).elim (fun h => Or.inl ((show ∀ w ∈ ([.selects "RefinementBenchModel" ⟨"RefinementBenchModel", "valueOf", "(I)I"⟩ ⟨"RefinementBenchModel", "valueOf", "(I)I"⟩] : List Cond), w ∈ pg_xs from by decide +kernel) w h)) (fun h => Or.inr (pg_wi_in h)), fun w h => pg_wi_in h⟩
set_option maxRecDepth 100000 in
theorem wd_M_valueOf : st_wd me_M_valueOf := ⟨fun _ => List.mem_of_getElem? (i := 1058) rfl, fun w h => Or.inr (pg_wi_in h), fun w h => pg_wi_in h⟩
set_option maxRecDepth 100000 in
theorem wd_M_join : st_wd me_M_join := ⟨fun _ => List.mem_of_getElem? (i := 1061) rfl, fun w h => Or.inr (pg_wi_in h), fun w h => pg_wi_in h⟩
set_option maxRecDepth 100000 in
theorem wd_M_advance : st_wd me_M_advance := ⟨fun _ => List.mem_of_getElem? (i := 1065) rfl, fun w h => (List.mem_append.mp h).elim (fun h => Or.inl ((show ∀ w ∈ ([.selects "RefinementBenchModel" ⟨"RefinementBenchModel", "has", "(III)Z"⟩ ⟨"RefinementBenchModel", "has", "(III)Z"⟩] : List Cond), w ∈ pg_xs from by decide +kernel) w h)) (fun h => Or.inr (pg_wi_in h)), fun w h => pg_wi_in h⟩
set_option maxRecDepth 100000 in
theorem wd_M_has : st_wd me_M_has := ⟨fun _ => List.mem_of_getElem? (i := 1069) rfl, fun w h => Or.inr (pg_wi_in h), fun w h => pg_wi_in h⟩
set_option maxRecDepth 100000 in
theorem wd_M_refuting : st_wd me_M_refuting := ⟨fun _ => List.mem_of_getElem? (i := 1073) rfl, fun w h => Or.inr (pg_wi_in h), fun w h => pg_wi_in h⟩
set_option maxRecDepth 100000 in
theorem wd_M_open : st_wd me_M_open := ⟨fun _ => List.mem_of_getElem? (i := 1077) rfl, fun w h => (List.mem_append.mp h).elim (fun h => Or.inl ((show ∀ w ∈ ([.selects "RefinementBenchModel" ⟨"RefinementBenchModel", "openOf", "(I)I"⟩ ⟨"RefinementBenchModel", "openOf", "(I)I"⟩] : List Cond), w ∈ pg_xs from by decide +kernel) w h)) (fun h => Or.inr (pg_wi_in h)), fun w h => pg_wi_in h⟩
set_option maxRecDepth 100000 in
theorem wd_M_openOf : st_wd me_M_openOf := ⟨fun _ => List.mem_of_getElem? (i := 1081) rfl, fun w h => Or.inr (pg_wi_in h), fun w h => pg_wi_in h⟩
set_option maxRecDepth 100000 in
theorem wd_M_first : st_wd me_M_first := ⟨fun _ => List.mem_of_getElem? (i := 1085) rfl, fun w h => (List.mem_append.mp h).elim (fun h => Or.inl ((show ∀ w ∈ ([.selects "RefinementBenchModel" ⟨"RefinementBenchModel", "openOf", "(I)I"⟩ ⟨"RefinementBenchModel", "openOf", "(I)I"⟩] : List Cond), w ∈ pg_xs from by decide +kernel) w h)) (fun h => Or.inr (pg_wi_in h)), fun w h => pg_wi_in h⟩
set_option maxRecDepth 100000 in
theorem wd_M_prune : st_wd me_M_prune := ⟨fun _ => List.mem_of_getElem? (i := 1089) rfl, fun w h => (List.mem_append.mp h).elim (fun h => Or.inl ((show ∀ w ∈ ([.selects "RefinementBenchModel" ⟨"RefinementBenchModel", "isNode", "(I)Z"⟩ ⟨"RefinementBenchModel", "isNode", "(I)Z"⟩, .selects "RefinementBenchModel" ⟨"RefinementBenchModel", "cameOf", "(II)Z"⟩ ⟨"RefinementBenchModel", "cameOf", "(II)Z"⟩] : List Cond), w ∈ pg_xs from by decide +kernel) w h)) (fun h => Or.inr (pg_wi_in h)), fun w h => pg_wi_in h⟩
set_option maxRecDepth 100000 in
theorem wd_M_cameOf : st_wd me_M_cameOf := ⟨fun _ => List.mem_of_getElem? (i := 1093) rfl, fun w h => Or.inr (pg_wi_in h), fun w h => pg_wi_in h⟩
set_option maxRecDepth 100000 in
theorem wd_M_node : st_wd me_M_node := ⟨fun _ => List.mem_of_getElem? (i := 1097) rfl, fun w h => (List.mem_append.mp h).elim (fun h => Or.inl ((show ∀ w ∈ ([.selects "RefinementBenchModel" ⟨"RefinementBenchModel", "isNode", "(I)Z"⟩ ⟨"RefinementBenchModel", "isNode", "(I)Z"⟩, .selects "RefinementBenchModel" ⟨"RefinementBenchModel", "openOf", "(I)I"⟩ ⟨"RefinementBenchModel", "openOf", "(I)I"⟩] : List Cond), w ∈ pg_xs from by decide +kernel) w h)) (fun h => Or.inr (pg_wi_in h)), fun w h => pg_wi_in h⟩
set_option maxRecDepth 100000 in
theorem wd_M_text : st_wd me_M_text := ⟨fun _ => List.mem_of_getElem? (i := 1101) rfl, fun w h => (List.mem_append.mp h).elim (fun h => Or.inl ((show ∀ w ∈ ([.selects "RefinementBenchModel" ⟨"RefinementBenchModel", "isNode", "(I)Z"⟩ ⟨"RefinementBenchModel", "isNode", "(I)Z"⟩] : List Cond), w ∈ pg_xs from by decide +kernel) w h)) (fun h => Or.inr (pg_wi_in h)), fun w h => pg_wi_in h⟩
set_option maxRecDepth 100000 in
theorem wd_M_program : st_wd me_M_program := ⟨fun _ => List.mem_of_getElem? (i := 1105) rfl, fun w h => (List.mem_append.mp h).elim (fun h => Or.inl ((show ∀ w ∈ ([.selects "RefinementBenchModel" ⟨"RefinementBenchModel", "isProgram", "()Z"⟩ ⟨"RefinementBenchModel", "isProgram", "()Z"⟩] : List Cond), w ∈ pg_xs from by decide +kernel) w h)) (fun h => Or.inr (pg_wi_in h)), fun w h => pg_wi_in h⟩
set_option maxRecDepth 100000 in
theorem wd_M_isProgram : st_wd me_M_isProgram := ⟨fun _ => List.mem_of_getElem? (i := 1109) rfl, fun w h => (List.mem_append.mp h).elim (fun h => Or.inl ((show ∀ w ∈ ([.selects "RefinementBenchModel" ⟨"RefinementBenchModel", "later", "(II)V"⟩ ⟨"RefinementBenchModel", "later", "(II)V"⟩, .selects "RefinementBenchModel" ⟨"RefinementBenchModel", "putDown", "(I)V"⟩ ⟨"RefinementBenchModel", "putDown", "(I)V"⟩, .selects "RefinementBenchModel" ⟨"RefinementBenchModel", "between", "(II)V"⟩ ⟨"RefinementBenchModel", "between", "(II)V"⟩, .selects "RefinementBenchModel" ⟨"RefinementBenchModel", "emit", "(III)I"⟩ ⟨"RefinementBenchModel", "emit", "(III)I"⟩] : List Cond), w ∈ pg_xs from by decide +kernel) w h)) (fun h => Or.inr (pg_wi_in h)), fun w h => pg_wi_in h⟩
set_option maxRecDepth 100000 in
theorem wd_M_later : st_wd me_M_later := ⟨fun _ => List.mem_of_getElem? (i := 1114) rfl, fun w h => Or.inr (pg_wi_in h), fun w h => pg_wi_in h⟩
set_option maxRecDepth 100000 in
theorem wd_M_putDown : st_wd me_M_putDown := ⟨fun _ => List.mem_of_getElem? (i := 1118) rfl, fun w h => (List.mem_append.mp h).elim (fun h => Or.inl ((show ∀ w ∈ ([.selects "RefinementBenchModel" ⟨"RefinementBenchModel", "emit", "(III)I"⟩ ⟨"RefinementBenchModel", "emit", "(III)I"⟩, .selects "RefinementBenchModel" ⟨"RefinementBenchModel", "later", "(II)V"⟩ ⟨"RefinementBenchModel", "later", "(II)V"⟩] : List Cond), w ∈ pg_xs from by decide +kernel) w h)) (fun h => Or.inr (pg_wi_in h)), fun w h => pg_wi_in h⟩
set_option maxRecDepth 100000 in
theorem wd_M_emit : st_wd me_M_emit := ⟨fun _ => List.mem_of_getElem? (i := 1122) rfl, fun w h => Or.inr (pg_wi_in h), fun w h => pg_wi_in h⟩
set_option maxRecDepth 100000 in
theorem wd_M_between : st_wd me_M_between := ⟨fun _ => List.mem_of_getElem? (i := 1126) rfl, fun w h => (List.mem_append.mp h).elim (fun h => Or.inl ((show ∀ w ∈ ([.selects "RefinementBenchModel" ⟨"RefinementBenchModel", "emit", "(III)I"⟩ ⟨"RefinementBenchModel", "emit", "(III)I"⟩, .selects "RefinementBenchModel" ⟨"RefinementBenchModel", "later", "(II)V"⟩ ⟨"RefinementBenchModel", "later", "(II)V"⟩] : List Cond), w ∈ pg_xs from by decide +kernel) w h)) (fun h => Or.inr (pg_wi_in h)), fun w h => pg_wi_in h⟩
set_option maxRecDepth 100000 in
theorem wd_M_instruction : st_wd me_M_instruction := ⟨fun _ => List.mem_of_getElem? (i := 1130) rfl, fun w h => (List.mem_append.mp h).elim (fun h => Or.inl ((show ∀ w ∈ ([.selects "RefinementBenchModel" ⟨"RefinementBenchModel", "isProgram", "()Z"⟩ ⟨"RefinementBenchModel", "isProgram", "()Z"⟩] : List Cond), w ∈ pg_xs from by decide +kernel) w h)) (fun h => Or.inr (pg_wi_in h)), fun w h => pg_wi_in h⟩
set_option maxRecDepth 100000 in
theorem wd_M_run : st_wd me_M_run := ⟨fun _ => List.mem_of_getElem? (i := 1134) rfl, fun w h => (List.mem_append.mp h).elim (fun h => Or.inl ((show ∀ w ∈ ([.selects "RefinementBenchModel" ⟨"RefinementBenchModel", "isProgram", "()Z"⟩ ⟨"RefinementBenchModel", "isProgram", "()Z"⟩, .selects "RefinementBenchModel" ⟨"RefinementBenchModel", "guard", "(I)I"⟩ ⟨"RefinementBenchModel", "guard", "(I)I"⟩] : List Cond), w ∈ pg_xs from by decide +kernel) w h)) (fun h => Or.inr (pg_wi_in h)), fun w h => pg_wi_in h⟩
set_option maxRecDepth 100000 in
theorem wd_M_guard : st_wd me_M_guard := ⟨fun _ => List.mem_of_getElem? (i := 1138) rfl, fun w h => (List.mem_append.mp h).elim (fun h => Or.inl ((show ∀ w ∈ ([.selects "RefinementBenchModel" ⟨"RefinementBenchModel", "step", "(I)V"⟩ ⟨"RefinementBenchModel", "step", "(I)V"⟩] : List Cond), w ∈ pg_xs from by decide +kernel) w h)) (fun h => Or.inr (pg_wi_in h)), fun w h => pg_wi_in h⟩
set_option maxRecDepth 100000 in
theorem wd_M_after : st_wd me_M_after := ⟨fun _ => List.mem_of_getElem? (i := 1142) rfl, fun w h => Or.inr (pg_wi_in h), fun w h => pg_wi_in h⟩
set_option maxRecDepth 100000 in
theorem wd_sb_init : st_wd me_sb_init := ⟨fun _ => List.mem_of_getElem? (i := 35) rfl, fun w h => Or.inr (pg_wi_in h), fun w h => pg_wi_in h⟩
set_option maxRecDepth 100000 in
theorem wd_ab_init : st_wd me_ab_init := ⟨fun _ => List.mem_of_getElem? (i := 38) rfl, fun w h => Or.inr (pg_wi_in h), fun w h => pg_wi_in h⟩
set_option maxRecDepth 100000 in
theorem wd_sb_length : st_wd me_sb_length := ⟨fun _ => List.mem_of_getElem? (i := 195) rfl, fun w h => Or.inr (pg_wi_in h), fun w h => pg_wi_in h⟩
set_option maxRecDepth 100000 in
theorem wd_ab_length : st_wd me_ab_length := ⟨fun _ => List.mem_of_getElem? (i := 198) rfl, fun w h => Or.inr (pg_wi_in h), fun w h => pg_wi_in h⟩
set_option maxRecDepth 100000 in
theorem wd_sb_append_C : st_wd me_sb_append_C := ⟨fun _ => List.mem_of_getElem? (i := 202) rfl, fun w h => Or.inr (pg_wi_in h), fun w h => pg_wi_in h⟩
set_option maxRecDepth 100000 in
theorem wd_ab_append_C : st_wd me_ab_append_C := ⟨fun _ => List.mem_of_getElem? (i := 205) rfl, fun w h => (List.mem_append.mp h).elim (fun h => Or.inl ((show ∀ w ∈ ([.selects "java/lang/StringBuilder" ⟨"java/lang/AbstractStringBuilder", "ensureCapacityInternal", "(I)V"⟩ ⟨"java/lang/AbstractStringBuilder", "ensureCapacityInternal", "(I)V"⟩] : List Cond), w ∈ pg_xs from by decide +kernel) w h)) (fun h => Or.inr (pg_wi_in h)), fun w h => pg_wi_in h⟩
set_option maxRecDepth 100000 in
theorem wd_ab_ensureCapacityInternal : st_wd me_ab_ensureCapacityInternal := ⟨fun _ => List.mem_of_getElem? (i := 209) rfl, fun w h => (List.mem_append.mp h).elim (fun h => Or.inl ((show ∀ w ∈ ([.selects "java/lang/StringBuilder" ⟨"java/lang/AbstractStringBuilder", "newCapacity", "(I)I"⟩ ⟨"java/lang/AbstractStringBuilder", "newCapacity", "(I)I"⟩] : List Cond), w ∈ pg_xs from by decide +kernel) w h)) (fun h => Or.inr (pg_wi_in h)), fun w h => pg_wi_in h⟩
set_option maxRecDepth 100000 in
theorem wd_ab_newCapacity : st_wd me_ab_newCapacity := ⟨fun _ => List.mem_of_getElem? (i := 213) rfl, fun w h => Or.inr (pg_wi_in h), fun w h => pg_wi_in h⟩
set_option maxRecDepth 100000 in
theorem wd_as_newLength : st_wd me_as_newLength := ⟨fun _ => List.mem_of_getElem? (i := 216) rfl, fun w h => Or.inr (pg_wi_in h), fun w h => pg_wi_in h⟩
set_option maxRecDepth 100000 in
theorem wd_ar_copyOf : st_wd me_ar_copyOf := ⟨fun _ => List.mem_of_getElem? (i := 227) rfl, fun w h => Or.inr (pg_wi_in h), fun w h => pg_wi_in h⟩
set_option maxRecDepth 100000 in
theorem wd_ab_isLatin1 : st_wd me_ab_isLatin1 := ⟨fun _ => List.mem_of_getElem? (i := 245) rfl, fun w h => Or.inr (pg_wi_in h), fun w h => pg_wi_in h⟩
set_option maxRecDepth 100000 in
theorem wd_la_canEncode_C : st_wd me_la_canEncode_C := ⟨fun _ => List.mem_of_getElem? (i := 248) rfl, fun w h => Or.inr (pg_wi_in h), fun w h => pg_wi_in h⟩
set_option maxRecDepth 100000 in
theorem wd_st_checkIndex : st_wd me_st_checkIndex := ⟨fun _ => List.mem_of_getElem? (i := 290) rfl, fun w h => Or.inr (pg_wi_in h), fun w h => pg_wi_in h⟩
set_option maxRecDepth 100000 in
theorem wd_pr_checkIndex : st_wd me_pr_checkIndex := ⟨fun _ => List.mem_of_getElem? (i := 293) rfl, fun w h => Or.inr (pg_wi_in h), fun w h => pg_wi_in h⟩
set_option maxRecDepth 100000 in
theorem wd_sb_toString : st_wd me_sb_toString := ⟨fun _ => List.mem_of_getElem? (i := 301) rfl, fun w h => Or.inr (pg_wi_in h), fun w h => pg_wi_in h⟩
set_option maxRecDepth 100000 in
theorem wd_st_init_LStringBuilder : st_wd me_st_init_LStringBuilder := ⟨fun _ => List.mem_of_getElem? (i := 306) rfl, fun w h => Or.inr (pg_wi_in h), fun w h => pg_wi_in h⟩
set_option maxRecDepth 100000 in
theorem wd_st_init_LAbstractStringBuilderLVoid : st_wd me_st_init_LAbstractStringBuilderLVoid := ⟨fun _ => List.mem_of_getElem? (i := 309) rfl, fun w h => Or.inr (pg_wi_in h), fun w h => pg_wi_in h⟩
set_option maxRecDepth 100000 in
theorem wd_ab_getValue : st_wd me_ab_getValue := ⟨fun _ => List.mem_of_getElem? (i := 315) rfl, fun w h => Or.inr (pg_wi_in h), fun w h => pg_wi_in h⟩
set_option maxRecDepth 100000 in
theorem wd_ar_copyOfRange : st_wd me_ar_copyOfRange := ⟨fun _ => List.mem_of_getElem? (i := 320) rfl, fun w h => Or.inr (pg_wi_in h), fun w h => pg_wi_in h⟩
set_option maxRecDepth 100000 in
theorem wd_ar_copyOfRangeByte : st_wd me_ar_copyOfRangeByte := ⟨fun _ => List.mem_of_getElem? (i := 323) rfl, fun w h => Or.inr (pg_wi_in h), fun w h => pg_wi_in h⟩
set_option maxRecDepth 100000 in
theorem wd_ar_checkLength : st_wd me_ar_checkLength := ⟨fun _ => List.mem_of_getElem? (i := 326) rfl, fun w h => Or.inr (pg_wi_in h), fun w h => pg_wi_in h⟩
set_option maxRecDepth 100000 in
theorem wd_sb_setLength : st_wd me_sb_setLength := ⟨fun _ => List.mem_of_getElem? (i := 355) rfl, fun w h => Or.inr (pg_wi_in h), fun w h => pg_wi_in h⟩
set_option maxRecDepth 100000 in
theorem wd_ab_setLength : st_wd me_ab_setLength := ⟨fun _ => List.mem_of_getElem? (i := 358) rfl, fun w h => (List.mem_append.mp h).elim (fun h => Or.inl ((show ∀ w ∈ ([.selects "java/lang/StringBuilder" ⟨"java/lang/AbstractStringBuilder", "ensureCapacityInternal", "(I)V"⟩ ⟨"java/lang/AbstractStringBuilder", "ensureCapacityInternal", "(I)V"⟩] : List Cond), w ∈ pg_xs from by decide +kernel) w h)) (fun h => Or.inr (pg_wi_in h)), fun w h => pg_wi_in h⟩
set_option maxRecDepth 100000 in
theorem wd_st_length : st_wd me_st_length := ⟨fun _ => List.mem_of_getElem? (i := 378) rfl, fun w h => Or.inr (pg_wi_in h), fun w h => pg_wi_in h⟩
set_option maxRecDepth 100000 in
theorem wd_st_coder : st_wd me_st_coder := ⟨fun _ => List.mem_of_getElem? (i := 382) rfl, fun w h => Or.inr (pg_wi_in h), fun w h => pg_wi_in h⟩
set_option maxRecDepth 100000 in
theorem wd_st_charAt : st_wd me_st_charAt := ⟨fun _ => List.mem_of_getElem? (i := 386) rfl, fun w h => Or.inr (pg_wi_in h), fun w h => pg_wi_in h⟩
set_option maxRecDepth 100000 in
theorem wd_st_isLatin1 : st_wd me_st_isLatin1 := ⟨fun _ => List.mem_of_getElem? (i := 390) rfl, fun w h => Or.inr (pg_wi_in h), fun w h => pg_wi_in h⟩
set_option maxRecDepth 100000 in
theorem wd_la_charAt : st_wd me_la_charAt := ⟨fun _ => List.mem_of_getElem? (i := 393) rfl, fun w h => Or.inr (pg_wi_in h), fun w h => pg_wi_in h⟩
set_option maxRecDepth 100000 in
theorem wd_st_indexOf_I : st_wd me_st_indexOf_I := ⟨fun _ => List.mem_of_getElem? (i := 464) rfl, fun w h => Or.inr (pg_wi_in h), fun w h => pg_wi_in h⟩
set_option maxRecDepth 100000 in
theorem wd_st_indexOf_II : st_wd me_st_indexOf_II := ⟨fun _ => List.mem_of_getElem? (i := 468) rfl, fun w h => Or.inr (pg_wi_in h), fun w h => pg_wi_in h⟩
set_option maxRecDepth 100000 in
theorem wd_la_indexOf : st_wd me_la_indexOf := ⟨fun _ => List.mem_of_getElem? (i := 472) rfl, fun w h => Or.inr (pg_wi_in h), fun w h => pg_wi_in h⟩
set_option maxRecDepth 100000 in
theorem wd_la_canEncode_I : st_wd me_la_canEncode_I := ⟨fun _ => List.mem_of_getElem? (i := 475) rfl, fun w h => Or.inr (pg_wi_in h), fun w h => pg_wi_in h⟩
set_option maxRecDepth 100000 in
theorem wd_la_indexOfChar : st_wd me_la_indexOfChar := ⟨fun _ => List.mem_of_getElem? (i := 480) rfl, fun w h => Or.inr (pg_wi_in h), fun w h => pg_wi_in h⟩
set_option maxRecDepth 100000 in
theorem wd_sb_append_LString : st_wd me_sb_append_LString := ⟨fun _ => List.mem_of_getElem? (i := 582) rfl, fun w h => Or.inr (pg_wi_in h), fun w h => pg_wi_in h⟩
set_option maxRecDepth 100000 in
theorem wd_ab_append_LString : st_wd me_ab_append_LString := ⟨fun _ => List.mem_of_getElem? (i := 585) rfl, fun w h => (List.mem_append.mp h).elim (fun h => Or.inl ((show ∀ w ∈ ([.selects "java/lang/StringBuilder" ⟨"java/lang/AbstractStringBuilder", "ensureCapacityInternal", "(I)V"⟩ ⟨"java/lang/AbstractStringBuilder", "ensureCapacityInternal", "(I)V"⟩, .selects "java/lang/StringBuilder" ⟨"java/lang/AbstractStringBuilder", "putStringAt", "(ILjava/lang/String;)V"⟩ ⟨"java/lang/AbstractStringBuilder", "putStringAt", "(ILjava/lang/String;)V"⟩] : List Cond), w ∈ pg_xs from by decide +kernel) w h)) (fun h => Or.inr (pg_wi_in h)), fun w h => pg_wi_in h⟩
set_option maxRecDepth 100000 in
theorem wd_ab_putStringAt : st_wd me_ab_putStringAt := ⟨fun _ => List.mem_of_getElem? (i := 597) rfl, fun w h => (List.mem_append.mp h).elim (fun h => Or.inl ((show ∀ w ∈ ([.selects "java/lang/StringBuilder" ⟨"java/lang/AbstractStringBuilder", "inflateIfNeededFor", "(Ljava/lang/String;)V"⟩ ⟨"java/lang/AbstractStringBuilder", "inflateIfNeededFor", "(Ljava/lang/String;)V"⟩] : List Cond), w ∈ pg_xs from by decide +kernel) w h)) (fun h => Or.inr (pg_wi_in h)), fun w h => pg_wi_in h⟩
set_option maxRecDepth 100000 in
theorem wd_ab_inflateIfNeededFor : st_wd me_ab_inflateIfNeededFor := ⟨fun _ => List.mem_of_getElem? (i := 601) rfl, fun w h => Or.inr (pg_wi_in h), fun w h => pg_wi_in h⟩
set_option maxRecDepth 100000 in
theorem wd_st_getBytes : st_wd me_st_getBytes := ⟨fun _ => List.mem_of_getElem? (i := 606) rfl, fun w h => Or.inr (pg_wi_in h), fun w h => pg_wi_in h⟩
set_option maxRecDepth 100000 in
theorem wd_lo_numberOfTrailingZeros : st_wd me_lo_numberOfTrailingZeros := ⟨fun _ => List.mem_of_getElem? (i := 713) rfl, fun w h => Or.inr (pg_wi_in h), fun w h => pg_wi_in h⟩
set_option maxRecDepth 100000 in
theorem wd_in_numberOfTrailingZeros : st_wd me_in_numberOfTrailingZeros := ⟨fun _ => List.mem_of_getElem? (i := 716) rfl, fun w h => Or.inr (pg_wi_in h), fun w h => pg_wi_in h⟩
set_option maxRecDepth 100000 in
theorem wd_all : ∀ M ∈ pg_mt, st_wd M := by
  exact List.forall_mem_cons.mpr ⟨wd_L_law, List.forall_mem_cons.mpr ⟨wd_R_init, List.forall_mem_cons.mpr ⟨wd_D_init, List.forall_mem_cons.mpr ⟨wd_J_init, List.forall_mem_cons.mpr ⟨wd_C_init, List.forall_mem_cons.mpr ⟨wd_I_init, List.forall_mem_cons.mpr ⟨wd_S_init, List.forall_mem_cons.mpr ⟨wd_R_type, List.forall_mem_cons.mpr ⟨wd_R_arePrintable, List.forall_mem_cons.mpr ⟨wd_R_byteOf, List.forall_mem_cons.mpr ⟨wd_R_hold, List.forall_mem_cons.mpr ⟨wd_R_rightCharacters, List.forall_mem_cons.mpr ⟨wd_R_isTermOperator, List.forall_mem_cons.mpr ⟨wd_R_isNumber, List.forall_mem_cons.mpr ⟨wd_R_begin, List.forall_mem_cons.mpr ⟨wd_N_init, List.forall_mem_cons.mpr ⟨wd_R_enter, List.forall_mem_cons.mpr ⟨wd_R_refine, List.forall_mem_cons.mpr ⟨wd_R_find, List.forall_mem_cons.mpr ⟨wd_R_allows, List.forall_mem_cons.mpr ⟨wd_N_mayChange, List.forall_mem_cons.mpr ⟨wd_S_hasX, List.forall_mem_cons.mpr ⟨wd_N_isInLoop, List.forall_mem_cons.mpr ⟨wd_D_startAnew, List.forall_mem_cons.mpr ⟨wd_R_stepBy, List.forall_mem_cons.mpr ⟨wd_P_init, List.forall_mem_cons.mpr ⟨wd_D_put, List.forall_mem_cons.mpr ⟨wd_D_take, List.forall_mem_cons.mpr ⟨wd_R_assign, List.forall_mem_cons.mpr ⟨wd_D_putWith, List.forall_mem_cons.mpr ⟨wd_R_alternate, List.forall_mem_cons.mpr ⟨wd_R_loop, List.forall_mem_cons.mpr ⟨wd_R_freeNumbers, List.forall_mem_cons.mpr ⟨wd_P_countChildren, List.forall_mem_cons.mpr ⟨wd_R_prove, List.forall_mem_cons.mpr ⟨wd_R_isRefuted, List.forall_mem_cons.mpr ⟨wd_J_truths, List.forall_mem_cons.mpr ⟨wd_J_weigh, List.forall_mem_cons.mpr ⟨wd_J_pileNumber, List.forall_mem_cons.mpr ⟨wd_J_pile, List.forall_mem_cons.mpr ⟨wd_J_negate, List.forall_mem_cons.mpr ⟨wd_J_join, List.forall_mem_cons.mpr ⟨wd_J_add, List.forall_mem_cons.mpr ⟨wd_J_subtract, List.forall_mem_cons.mpr ⟨wd_J_borrow, List.forall_mem_cons.mpr ⟨wd_J_multiply, List.forall_mem_cons.mpr ⟨wd_J_compare, List.forall_mem_cons.mpr ⟨wd_R_refuting, List.forall_mem_cons.mpr ⟨wd_R_open, List.forall_mem_cons.mpr ⟨wd_N_countOpen, List.forall_mem_cons.mpr ⟨wd_P_countConditions, List.forall_mem_cons.mpr ⟨wd_R_first, List.forall_mem_cons.mpr ⟨wd_R_prune, List.forall_mem_cons.mpr ⟨wd_N_cameOf, List.forall_mem_cons.mpr ⟨wd_R_node, List.forall_mem_cons.mpr ⟨wd_R_numberOf, List.forall_mem_cons.mpr ⟨wd_R_text, List.forall_mem_cons.mpr ⟨wd_N_writing, List.forall_mem_cons.mpr ⟨wd_R_program, List.forall_mem_cons.mpr ⟨wd_R_layOutProgram, List.forall_mem_cons.mpr ⟨wd_C_layOut, List.forall_mem_cons.mpr ⟨wd_C_layOutNode, List.forall_mem_cons.mpr ⟨wd_C_add, List.forall_mem_cons.mpr ⟨wd_C_layOutAlternative, List.forall_mem_cons.mpr ⟨wd_C_layOutLoop, List.forall_mem_cons.mpr ⟨wd_R_instruction, List.forall_mem_cons.mpr ⟨wd_R_run, List.forall_mem_cons.mpr ⟨wd_C_isEnd, List.forall_mem_cons.mpr ⟨wd_C_next, List.forall_mem_cons.mpr ⟨wd_J_number, List.forall_mem_cons.mpr ⟨wd_R_after, List.forall_mem_cons.mpr ⟨wd_M_init, List.forall_mem_cons.mpr ⟨wd_M_type, List.forall_mem_cons.mpr ⟨wd_M_hold, List.forall_mem_cons.mpr ⟨wd_M_wrong, List.forall_mem_cons.mpr ⟨wd_M_wants, List.forall_mem_cons.mpr ⟨wd_M_isLetter, List.forall_mem_cons.mpr ⟨wd_M_begin, List.forall_mem_cons.mpr ⟨wd_M_place, List.forall_mem_cons.mpr ⟨wd_M_placeOf, List.forall_mem_cons.mpr ⟨wd_M_copy, List.forall_mem_cons.mpr ⟨wd_M_lengthAt, List.forall_mem_cons.mpr ⟨wd_M_refine, List.forall_mem_cons.mpr ⟨wd_M_isNode, List.forall_mem_cons.mpr ⟨wd_M_isAsSaid, List.forall_mem_cons.mpr ⟨wd_M_slotHas, List.forall_mem_cons.mpr ⟨wd_M_isInLoop, List.forall_mem_cons.mpr ⟨wd_M_make, List.forall_mem_cons.mpr ⟨wd_M_openCondition, List.forall_mem_cons.mpr ⟨wd_M_openText, List.forall_mem_cons.mpr ⟨wd_M_put, List.forall_mem_cons.mpr ⟨wd_M_putNode, List.forall_mem_cons.mpr ⟨wd_M_putText, List.forall_mem_cons.mpr ⟨wd_M_putReplaced, List.forall_mem_cons.mpr ⟨wd_M_putSlot, List.forall_mem_cons.mpr ⟨wd_M_makeSequence, List.forall_mem_cons.mpr ⟨wd_M_makeAlternative, List.forall_mem_cons.mpr ⟨wd_M_makeLoop, List.forall_mem_cons.mpr ⟨wd_M_makeOne, List.forall_mem_cons.mpr ⟨wd_M_hasRoom, List.forall_mem_cons.mpr ⟨wd_M_child, List.forall_mem_cons.mpr ⟨wd_M_freeNode, List.forall_mem_cons.mpr ⟨wd_M_prove, List.forall_mem_cons.mpr ⟨wd_M_isValid, List.forall_mem_cons.mpr ⟨wd_M_worked, List.forall_mem_cons.mpr ⟨wd_M_step, List.forall_mem_cons.mpr ⟨wd_M_valueOf, List.forall_mem_cons.mpr ⟨wd_M_join, List.forall_mem_cons.mpr ⟨wd_M_advance, List.forall_mem_cons.mpr ⟨wd_M_has, List.forall_mem_cons.mpr ⟨wd_M_refuting, List.forall_mem_cons.mpr ⟨wd_M_open, List.forall_mem_cons.mpr ⟨wd_M_openOf, List.forall_mem_cons.mpr ⟨wd_M_first, List.forall_mem_cons.mpr ⟨wd_M_prune, List.forall_mem_cons.mpr ⟨wd_M_cameOf, List.forall_mem_cons.mpr ⟨wd_M_node, List.forall_mem_cons.mpr ⟨wd_M_text, List.forall_mem_cons.mpr ⟨wd_M_program, List.forall_mem_cons.mpr ⟨wd_M_isProgram, List.forall_mem_cons.mpr ⟨wd_M_later, List.forall_mem_cons.mpr ⟨wd_M_putDown, List.forall_mem_cons.mpr ⟨wd_M_emit, List.forall_mem_cons.mpr ⟨wd_M_between, List.forall_mem_cons.mpr ⟨wd_M_instruction, List.forall_mem_cons.mpr ⟨wd_M_run, List.forall_mem_cons.mpr ⟨wd_M_guard, List.forall_mem_cons.mpr ⟨wd_M_after, List.forall_mem_cons.mpr ⟨wd_sb_init, List.forall_mem_cons.mpr ⟨wd_ab_init, List.forall_mem_cons.mpr ⟨wd_sb_length, List.forall_mem_cons.mpr ⟨wd_ab_length, List.forall_mem_cons.mpr ⟨wd_sb_append_C, List.forall_mem_cons.mpr ⟨wd_ab_append_C, List.forall_mem_cons.mpr ⟨wd_ab_ensureCapacityInternal, List.forall_mem_cons.mpr ⟨wd_ab_newCapacity, List.forall_mem_cons.mpr ⟨wd_as_newLength, List.forall_mem_cons.mpr ⟨wd_ar_copyOf, List.forall_mem_cons.mpr ⟨wd_ab_isLatin1, List.forall_mem_cons.mpr ⟨wd_la_canEncode_C, List.forall_mem_cons.mpr ⟨wd_st_checkIndex, List.forall_mem_cons.mpr ⟨wd_pr_checkIndex, List.forall_mem_cons.mpr ⟨wd_sb_toString, List.forall_mem_cons.mpr ⟨wd_st_init_LStringBuilder, List.forall_mem_cons.mpr ⟨wd_st_init_LAbstractStringBuilderLVoid, List.forall_mem_cons.mpr ⟨wd_ab_getValue, List.forall_mem_cons.mpr ⟨wd_ar_copyOfRange, List.forall_mem_cons.mpr ⟨wd_ar_copyOfRangeByte, List.forall_mem_cons.mpr ⟨wd_ar_checkLength, List.forall_mem_cons.mpr ⟨wd_sb_setLength, List.forall_mem_cons.mpr ⟨wd_ab_setLength, List.forall_mem_cons.mpr ⟨wd_st_length, List.forall_mem_cons.mpr ⟨wd_st_coder, List.forall_mem_cons.mpr ⟨wd_st_charAt, List.forall_mem_cons.mpr ⟨wd_st_isLatin1, List.forall_mem_cons.mpr ⟨wd_la_charAt, List.forall_mem_cons.mpr ⟨wd_st_indexOf_I, List.forall_mem_cons.mpr ⟨wd_st_indexOf_II, List.forall_mem_cons.mpr ⟨wd_la_indexOf, List.forall_mem_cons.mpr ⟨wd_la_canEncode_I, List.forall_mem_cons.mpr ⟨wd_la_indexOfChar, List.forall_mem_cons.mpr ⟨wd_sb_append_LString, List.forall_mem_cons.mpr ⟨wd_ab_append_LString, List.forall_mem_cons.mpr ⟨wd_ab_putStringAt, List.forall_mem_cons.mpr ⟨wd_ab_inflateIfNeededFor, List.forall_mem_cons.mpr ⟨wd_st_getBytes, List.forall_mem_cons.mpr ⟨wd_lo_numberOfTrailingZeros, List.forall_mem_cons.mpr ⟨wd_in_numberOfTrailingZeros, fun _ h => absurd h List.not_mem_nil⟩⟩⟩⟩⟩⟩⟩⟩⟩⟩⟩⟩⟩⟩⟩⟩⟩⟩⟩⟩⟩⟩⟩⟩⟩⟩⟩⟩⟩⟩⟩⟩⟩⟩⟩⟩⟩⟩⟩⟩⟩⟩⟩⟩⟩⟩⟩⟩⟩⟩⟩⟩⟩⟩⟩⟩⟩⟩⟩⟩⟩⟩⟩⟩⟩⟩⟩⟩⟩⟩⟩⟩⟩⟩⟩⟩⟩⟩⟩⟩⟩⟩⟩⟩⟩⟩⟩⟩⟩⟩⟩⟩⟩⟩⟩⟩⟩⟩⟩⟩⟩⟩⟩⟩⟩⟩⟩⟩⟩⟩⟩⟩⟩⟩⟩⟩⟩⟩⟩⟩⟩⟩⟩⟩⟩⟩⟩⟩⟩⟩⟩⟩⟩⟩⟩⟩⟩⟩⟩⟩⟩⟩⟩⟩⟩⟩⟩⟩⟩⟩⟩⟩⟩⟩⟩⟩⟩⟩⟩⟩⟩⟩⟩⟩⟩⟩⟩⟩
/-- the classes -/
def st_wc (r : vw_C) : Prop := (∀ w ∈ u_ws r.1 r.2.1 r.2.2, w ∈ tables_1) ∧ Cond.instantiable r.1 r.2.2 ∈ tables_1
set_option maxRecDepth 100000 in
theorem wc_R : st_wc ("RefinementBench", pg_TR, 10) := ⟨fun w h => pg_wi_in (l := [161, 163, 165, 167, 169, 171, 173, 175, 177, 179]) (by rw [← show u_ws "RefinementBench" pg_TR 10 = pg_wi [161, 163, 165, 167, 169, 171, 173, 175, 177, 179] from by decide +kernel]; exact h), List.mem_of_getElem? (i := 24) rfl⟩
set_option maxRecDepth 100000 in
theorem wc_C : st_wc ("RefinementBench$Code", pg_TC, 2) := ⟨fun w h => pg_wi_in (l := [133, 135]) (by rw [← show u_ws "RefinementBench$Code" pg_TC 2 = pg_wi [133, 135] from by decide +kernel]; exact h), List.mem_of_getElem? (i := 105) rfl⟩
set_option maxRecDepth 100000 in
theorem wc_D : st_wc ("RefinementBench$Draft", pg_TD, 2) := ⟨fun w h => pg_wi_in (l := [79, 81]) (by rw [← show u_ws "RefinementBench$Draft" pg_TD 2 = pg_wi [79, 81] from by decide +kernel]; exact h), List.mem_of_getElem? (i := 69) rfl⟩
set_option maxRecDepth 100000 in
theorem wc_I : st_wc ("RefinementBench$Instruction", pg_TI, 3) := ⟨fun w h => pg_wi_in (l := [122, 124, 126]) (by rw [← show u_ws "RefinementBench$Instruction" pg_TI 3 = pg_wi [122, 124, 126] from by decide +kernel]; exact h), List.mem_of_getElem? (i := 112) rfl⟩
set_option maxRecDepth 100000 in
theorem wc_J : st_wc ("RefinementBench$Judge", pg_TJ, 4) := ⟨fun w h => pg_wi_in (l := [94, 96, 98, 100]) (by rw [← show u_ws "RefinementBench$Judge" pg_TJ 4 = pg_wi [94, 96, 98, 100] from by decide +kernel]; exact h), List.mem_of_getElem? (i := 85) rfl⟩
set_option maxRecDepth 100000 in
theorem wc_N : st_wc ("RefinementBench$Node", pg_TN, 6) := ⟨fun w h => pg_wi_in (l := [424, 426, 428, 430, 432, 434]) (by rw [← show u_ws "RefinementBench$Node" pg_TN 6 = pg_wi [424, 426, 428, 430, 432, 434] from by decide +kernel]; exact h), List.mem_of_getElem? (i := 408) rfl⟩
set_option maxRecDepth 100000 in
theorem wc_S : st_wc ("RefinementBench$Slot", pg_TS, 1) := ⟨fun w h => pg_wi_in (l := [147]) (by rw [← show u_ws "RefinementBench$Slot" pg_TS 1 = pg_wi [147] from by decide +kernel]; exact h), List.mem_of_getElem? (i := 138) rfl⟩
set_option maxRecDepth 100000 in
theorem wc_P : st_wc ("RefinementBench$Step", pg_TP, 8) := ⟨fun w h => pg_wi_in (l := [556, 558, 560, 562, 564, 566, 568, 570]) (by rw [← show u_ws "RefinementBench$Step" pg_TP 8 = pg_wi [556, 558, 560, 562, 564, 566, 568, 570] from by decide +kernel]; exact h), List.mem_of_getElem? (i := 529) rfl⟩
set_option maxRecDepth 100000 in
theorem wc_M : st_wc ("RefinementBenchModel", pg_TM, 32) := ⟨fun w h => pg_wi_in (l := [856, 858, 860, 862, 864, 866, 868, 870, 872, 874, 876, 878, 880, 882, 884, 886, 888, 890, 892, 894, 896, 898, 900, 902, 904, 906, 908, 910, 912, 914, 916, 918]) (by rw [← show u_ws "RefinementBenchModel" pg_TM 32 = pg_wi [856, 858, 860, 862, 864, 866, 868, 870, 872, 874, 876, 878, 880, 882, 884, 886, 888, 890, 892, 894, 896, 898, 900, 902, 904, 906, 908, 910, 912, 914, 916, 918] from by decide +kernel]; exact h), List.mem_of_getElem? (i := 819) rfl⟩
set_option maxRecDepth 100000 in
theorem wc_sb : st_wc ("java/lang/StringBuilder", pg_Tsb, 4) := ⟨fun w h => pg_wi_in (l := [54, 56, 58, 60]) (by rw [← show u_ws "java/lang/StringBuilder" pg_Tsb 4 = pg_wi [54, 56, 58, 60] from by decide +kernel]; exact h), List.mem_of_getElem? (i := 32) rfl⟩
set_option maxRecDepth 100000 in
theorem wc_st : st_wc ("java/lang/String", pg_Tst, 4) := ⟨fun w h => pg_wi_in (l := [343, 345, 347, 349]) (by rw [← show u_ws "java/lang/String" pg_Tst 4 = pg_wi [343, 345, 347, 349] from by decide +kernel]; exact h), List.mem_of_getElem? (i := 303) rfl⟩
theorem wc_all : ∀ r ∈ pg_cl, st_wc r := List.forall_mem_cons.mpr ⟨wc_R, List.forall_mem_cons.mpr ⟨wc_C, List.forall_mem_cons.mpr ⟨wc_D, List.forall_mem_cons.mpr ⟨wc_I, List.forall_mem_cons.mpr ⟨wc_J, List.forall_mem_cons.mpr ⟨wc_N, List.forall_mem_cons.mpr ⟨wc_S, List.forall_mem_cons.mpr ⟨wc_P, List.forall_mem_cons.mpr ⟨wc_M, List.forall_mem_cons.mpr ⟨wc_sb, List.forall_mem_cons.mpr ⟨wc_st, fun _ h => absurd h List.not_mem_nil⟩⟩⟩⟩⟩⟩⟩⟩⟩⟩⟩
