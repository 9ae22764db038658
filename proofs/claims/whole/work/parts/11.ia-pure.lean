/-! MY MACHINE, 2: instructions that touch locals and operands alone. Printed by wip/whole/gen/pure.py. -/
def ia_len : Instr → Nat
  | .aload _ => 2 | .iload _ => 2 | .lload _ => 2 | .astore _ => 2 | .istore _ => 2 | .lstore _ => 2
  | .bipush _ => 2 | .sipush _ => 3 | .ldc _ => 2 | .ldc_w _ => 3 | .ldc2_w _ => 3 | .iinc _ _ => 3
  | .getfield _ => 3 | .putfield _ => 3 | .getstatic _ => 3 | .new _ => 3 | .newarray _ => 2 | .anewarray _ => 3
  | .invokevirtual _ => 3 | .invokespecial _ => 3 | .invokestatic _ => 3 | .checkcast _ => 3 | .instanceof _ => 3
  | .goto _ => 3 | .if_acmp _ _ => 3 | .if_icmp _ _ => 3 | .ifCond _ _ => 3 | .ifnonnull _ => 3 | .ifnull _ => 3
  | _ => 1
def ia_D : Value := .retAddr 0
def ia_isD : Value → Bool
  | .retAddr _ => true
  | _ => false
def ia_cl (ls : List Value) (i : Nat) : List Value := match i with
  | 0 => ls
  | i + 1 => match ls[i]? with
    | some (.long _) => ls.set i ia_D
    | some (.double _) => ls.set i ia_D
    | _ => ls
def ia_s1 (ls : List Value) (i : Nat) (v : Value) : List Value := (ia_cl ls i).set i v
def ia_s2 (ls : List Value) (i : Nat) (v : Value) : List Value := ((ia_cl ls i).set i v).set (i + 1) ia_D
def ia_jp (pc : Nat) (off : Int) : Nat := ((pc : Int) + off).toNat
def ia_c1 : Value → Bool
  | .long _ => false
  | .double _ => false
  | _ => true
def ia_c2 : Value → Bool
  | .long _ => true
  | .double _ => true
  | _ => false
theorem ia_c1_use {G : ia_G} {v : Value} (h : ia_c1 v = true) : (ia_cv G v).category = 1 := by
  rw [ia_cv_cat]
  cases v <;> first | rfl | cases h
theorem ia_c2_use {G : ia_G} {v : Value} (h : ia_c2 v = true) : (ia_cv G v).category = 2 := by
  rw [ia_cv_cat]
  cases v <;> first | rfl | cases h
/-- the list of locals as the kit has it -/
def ia_pl (G : ia_G) (ls : List Value) : List (Nat × Value) := ls.zipIdx.filterMap fun q => if ia_isD q.1 = true then none else some (q.2, ia_cv G q.1)
theorem ia_pl_mem {G : ia_G} {ls : List Value} {q : Nat × Value} : q ∈ ia_pl G ls ↔ ∃ v, ls[q.1]? = some v ∧ ia_isD v = false ∧ q.2 = ia_cv G v := by
  obtain ⟨i, x⟩ := q
  unfold ia_pl
  rw [List.mem_filterMap]
  constructor
  · rintro ⟨⟨v, j⟩, hm, he⟩
    have h1 := List.mem_zipIdx_iff_getElem?.mp hm
    dsimp only at he h1 ⊢
    split at he
    next => cases he
    next hd =>
      cases he
      exact ⟨v, h1, by simpa using hd, rfl⟩
  · rintro ⟨v, h1, h2, h3⟩
    refine ⟨(v, i), List.mem_zipIdx_iff_getElem?.mpr h1, ?_⟩
    dsimp only at h3 ⊢
    rw [if_neg (by rw [h2]; exact fun h => by cases h), h3]
def ia_ls (G : ia_G) (lc : Array Slot) (nL : Nat) (ls : List Value) : Prop := lv_has lc nL (ia_pl G ls) ∧ ls.length = nL
theorem ia_ls.get {G : ia_G} {lc : Array Slot} {nL i : Nat} {ls : List Value} {v : Value} (h : ia_ls G lc nL ls) (hi : ls[i]? = some v) (hv : ia_isD v = false) : lc[i]? = some (.val (ia_cv G v)) := h.1.2.2 (i, ia_cv G v) (ia_pl_mem.mpr ⟨v, hi, hv, rfl⟩)
theorem ia_cl_len (ls : List Value) (i : Nat) : (ia_cl ls i).length = ls.length := by
  unfold ia_cl
  split
  next => rfl
  next => split <;> simp
/-- what clearing leaves -/
theorem ia_cl_get {ls : List Value} {i j : Nat} {v : Value} (h : (ia_cl ls i)[j]? = some v) (hv : ia_isD v = false) : ls[j]? = some v ∧ ¬ (j + 1 = i ∧ ia_c2 v = true) := by
  unfold ia_cl at h
  split at h
  next => exact ⟨h, fun q => by omega⟩
  next i' =>
    split at h
    next z hz =>
      by_cases hj : j = i'
      · subst hj
        rw [List.getElem?_set_self (List.getElem?_eq_some_iff.mp hz).1] at h
        cases h
        cases hv
      · rw [List.getElem?_set_ne (Ne.symm hj)] at h
        exact ⟨h, fun q => hj (by omega)⟩
    next z hz =>
      by_cases hj : j = i'
      · subst hj
        rw [List.getElem?_set_self (List.getElem?_eq_some_iff.mp hz).1] at h
        cases h
        cases hv
      · rw [List.getElem?_set_ne (Ne.symm hj)] at h
        exact ⟨h, fun q => hj (by omega)⟩
    next n1 n2 =>
      refine ⟨h, fun q => ?_⟩
      obtain ⟨q1, q2⟩ := q
      have q1' : j = i' := by omega
      subst q1'
      cases v with
      | long z => exact n1 z h
      | double z => exact n2 z h
      | _ => cases q2
theorem ia_ls.put1 {G : ia_G} {lc lc' : Array Slot} {nL i : Nat} {ls : List Value} {v : Value} (h : ia_ls G lc nL ls) (h' : lv_has lc' nL ((i, ia_cv G v) :: (ia_pl G ls).filter (fun q => !(q.1 == i) && !(q.1 + 1 == i && q.2.category == 2)))) : ia_ls G lc' nL (ia_s1 ls i v) := by
  refine ⟨⟨h'.1, h'.2.1, fun q hq => h'.2.2 q ?_⟩, by unfold ia_s1; rw [List.length_set, ia_cl_len]; exact h.2⟩
  obtain ⟨w, h1, h2, h3⟩ := ia_pl_mem.mp hq
  obtain ⟨j, x⟩ := q
  dsimp only at h1 h3
  subst h3
  unfold ia_s1 at h1
  by_cases hj : i = j
  · subst hj
    have hlt : i < ((ia_cl ls i).set i v).length := (List.getElem?_eq_some_iff.mp h1).1
    rw [List.length_set] at hlt
    rw [List.getElem?_set_self hlt] at h1
    cases h1
    exact List.mem_cons_self
  · rw [List.getElem?_set_ne hj] at h1
    obtain ⟨g1, g2⟩ := ia_cl_get h1 h2
    refine List.mem_cons_of_mem _ (List.mem_filter.mpr ⟨ia_pl_mem.mpr ⟨w, g1, h2, rfl⟩, ?_⟩)
    have e1 : (j == i) = false := by simpa using Ne.symm hj
    have e2 : (j + 1 == i && (ia_cv G w).category == 2) = false := by
      rw [ia_cv_cat]
      by_cases hk : j + 1 = i
      · have e3 : ia_c2 w = false := by simpa using fun z => g2 ⟨hk, z⟩
        cases w <;> simp_all [Value.category, ia_c2]
      · simp [hk]
    show (!(j == i) && !(j + 1 == i && (ia_cv G w).category == 2)) = true
    rw [e1, e2]; rfl
theorem ia_ls.put2 {G : ia_G} {lc lc' : Array Slot} {nL i : Nat} {ls : List Value} {v : Value} (h : ia_ls G lc nL ls) (h' : lv_has lc' nL ((i, ia_cv G v) :: (ia_pl G ls).filter (fun q => !(q.1 == i) && (!(q.1 == i + 1) && !(q.1 + 1 == i && q.2.category == 2))))) : ia_ls G lc' nL (ia_s2 ls i v) := by
  refine ⟨⟨h'.1, h'.2.1, fun q hq => h'.2.2 q ?_⟩, by unfold ia_s2; rw [List.length_set, List.length_set, ia_cl_len]; exact h.2⟩
  obtain ⟨w, h1, h2, h3⟩ := ia_pl_mem.mp hq
  obtain ⟨j, x⟩ := q
  dsimp only at h1 h3
  subst h3
  unfold ia_s2 at h1
  by_cases hj1 : i + 1 = j
  · subst hj1
    have hlt : i + 1 < (((ia_cl ls i).set i v).set (i + 1) ia_D).length := (List.getElem?_eq_some_iff.mp h1).1
    rw [List.length_set] at hlt
    rw [List.getElem?_set_self hlt] at h1
    cases h1
    cases h2
  · rw [List.getElem?_set_ne hj1] at h1
    by_cases hj : i = j
    · subst hj
      have hlt : i < ((ia_cl ls i).set i v).length := (List.getElem?_eq_some_iff.mp h1).1
      rw [List.length_set] at hlt
      rw [List.getElem?_set_self hlt] at h1
      cases h1
      exact List.mem_cons_self
    · rw [List.getElem?_set_ne hj] at h1
      obtain ⟨g1, g2⟩ := ia_cl_get h1 h2
      refine List.mem_cons_of_mem _ (List.mem_filter.mpr ⟨ia_pl_mem.mpr ⟨w, g1, h2, rfl⟩, ?_⟩)
      have e1 : (j == i) = false := by simpa using Ne.symm hj
      have e4 : (j == i + 1) = false := by simpa using Ne.symm hj1
      have e2 : (j + 1 == i && (ia_cv G w).category == 2) = false := by
        rw [ia_cv_cat]
        by_cases hk : j + 1 = i
        · have e3 : ia_c2 w = false := by simpa using fun z => g2 ⟨hk, z⟩
          cases w <;> simp_all [Value.category, ia_c2]
        · simp [hk]
      show (!(j == i) && (!(j == i + 1) && !(j + 1 == i && (ia_cv G w).category == 2))) = true
      rw [e1, e4, e2]; rfl
theorem ia_ls.lt {G : ia_G} {lc : Array Slot} {nL i : Nat} {ls : List Value} {v : Value} (h : ia_ls G lc nL ls) (hi : ls[i]? = some v) : i < nL := by
  rw [← h.2]; exact (List.getElem?_eq_some_iff.mp hi).1
/-- one step: the next pc, locals, operands -/
def ia_pu (pc : Nat) (r : ia_R) (ls st : List Value) : Option (Nat × List Value × List Value) := match r with
  | (i, nx, tg, _, cst) => match i with
    | .iadd => match st with
      | .int y :: .int x :: t => some (nx, ls, .int (x + y) :: t)
      | _ => none
    | .isub => match st with
      | .int y :: .int x :: t => some (nx, ls, .int (x - y) :: t)
      | _ => none
    | .imul => match st with
      | .int y :: .int x :: t => some (nx, ls, .int (x * y) :: t)
      | _ => none
    | .iand => match st with
      | .int y :: .int x :: t => some (nx, ls, .int (x &&& y) :: t)
      | _ => none
    | .ior => match st with
      | .int y :: .int x :: t => some (nx, ls, .int (x ||| y) :: t)
      | _ => none
    | .ixor => match st with
      | .int y :: .int x :: t => some (nx, ls, .int (x ^^^ y) :: t)
      | _ => none
    | .ishl => match st with
      | .int y :: .int x :: t => some (nx, ls, .int (x <<< (y &&& 31)) :: t)
      | _ => none
    | .ishr => match st with
      | .int y :: .int x :: t => some (nx, ls, .int (x >>> (y &&& 31)) :: t)
      | _ => none
    | .iushr => match st with
      | .int y :: .int x :: t => some (nx, ls, .int ((x.toUInt32 >>> (y.toUInt32 &&& Int32.toUInt32 31)).toInt32) :: t)
      | _ => none
    | .idiv => match st with
      | .int y :: .int x :: t => if y = 0 then none else some (nx, ls, .int (x / y) :: t)
      | _ => none
    | .irem => match st with
      | .int y :: .int x :: t => if y = 0 then none else some (nx, ls, .int (x - x / y * y) :: t)
      | _ => none
    | .ineg => match st with
      | .int x :: t => some (nx, ls, .int (-x) :: t)
      | _ => none
    | .ladd => match st with
      | .long y :: .long x :: t => some (nx, ls, .long (x + y) :: t)
      | _ => none
    | .lsub => match st with
      | .long y :: .long x :: t => some (nx, ls, .long (x - y) :: t)
      | _ => none
    | .lmul => match st with
      | .long y :: .long x :: t => some (nx, ls, .long (x * y) :: t)
      | _ => none
    | .land => match st with
      | .long y :: .long x :: t => some (nx, ls, .long (x &&& y) :: t)
      | _ => none
    | .lor => match st with
      | .long y :: .long x :: t => some (nx, ls, .long (x ||| y) :: t)
      | _ => none
    | .lxor => match st with
      | .long y :: .long x :: t => some (nx, ls, .long (x ^^^ y) :: t)
      | _ => none
    | .lneg => match st with
      | .long x :: t => some (nx, ls, .long (-x) :: t)
      | _ => none
    | .lshl => match st with
      | .int y :: .long x :: t => some (nx, ls, .long (x <<< (y.toInt64 &&& 63)) :: t)
      | _ => none
    | .lshr => match st with
      | .int y :: .long x :: t => some (nx, ls, .long (x >>> (y.toInt64 &&& 63)) :: t)
      | _ => none
    | .lushr => match st with
      | .int y :: .long x :: t => some (nx, ls, .long ((x.toUInt64 >>> (y.toInt64.toUInt64 &&& Int64.toUInt64 63)).toInt64) :: t)
      | _ => none
    | .lcmp => match st with
      | .long y :: .long x :: t => some (nx, ls, .int (lg_cmp x y) :: t)
      | _ => none
    | .i2l => match st with
      | .int x :: t => some (nx, ls, .long x.toInt64 :: t)
      | _ => none
    | .l2i => match st with
      | .long x :: t => some (nx, ls, .int x.toInt32 :: t)
      | _ => none
    | .i2b => match st with
      | .int x :: t => some (nx, ls, .int x.toInt8.toInt32 :: t)
      | _ => none
    | .i2c => match st with
      | .int x :: t => some (nx, ls, .int (x.toUInt32 % 65536).toInt32 :: t)
      | _ => none
    | .aconst_null => some (nx, ls, .null :: st)
    | .dup => match st with
      | v :: t => if ia_c1 v = true then some (nx, ls, v :: v :: t) else none
      | _ => none
    | .pop => match st with
      | v :: t => if ia_c1 v = true then some (nx, ls, t) else none
      | _ => none
    | .dup_x1 => match st with
      | v :: u :: t => if ia_c1 v = true ∧ ia_c1 u = true then some (nx, ls, v :: u :: v :: t) else none
      | _ => none
    | .dup_x2 => match st with
      | v :: u :: z :: t => if ia_c1 v = true ∧ ia_c1 u = true ∧ ia_c1 z = true then some (nx, ls, v :: u :: z :: v :: t) else none
      | _ => none
    | .dup2 => match st with
      | v :: t => if ia_c2 v = true then some (nx, ls, v :: v :: t) else (match t with
        | u :: t2 => if ia_c1 v = true ∧ ia_c1 u = true then some (nx, ls, v :: u :: v :: u :: t2) else none
        | _ => none)
      | _ => none
    | .dup2_x1 => match st with
      | v :: u :: t => if ia_c2 v = true ∧ ia_c1 u = true then some (nx, ls, v :: u :: v :: t) else none
      | _ => none
    | .dup2_x2 => match st with
      | v :: u :: z :: t => if ia_c2 v = true ∧ ia_c1 u = true ∧ ia_c1 z = true then some (nx, ls, v :: u :: z :: v :: t) else none
      | _ => none
    | .iload i => match ls[i]? with
      | some (.int x) => some (nx, ls, .int x :: st)
      | _ => none
    | .iload_n i => match ls[i.val]? with
      | some (.int x) => some (nx, ls, .int x :: st)
      | _ => none
    | .lload i => match ls[i]? with
      | some (.long x) => some (nx, ls, .long x :: st)
      | _ => none
    | .lload_n i => match ls[i.val]? with
      | some (.long x) => some (nx, ls, .long x :: st)
      | _ => none
    | .aload i => match ls[i]? with
      | some (.ref x) => some (nx, ls, .ref x :: st)
      | some .null => some (nx, ls, .null :: st)
      | _ => none
    | .aload_n i => match ls[i.val]? with
      | some (.ref x) => some (nx, ls, .ref x :: st)
      | some .null => some (nx, ls, .null :: st)
      | _ => none
    | .istore i => match st with
      | .int x :: t => (match ls[i]? with
        | some _ => some (nx, ia_s1 ls i (.int x), t)
        | none => none)
      | _ => none
    | .istore_n i => match st with
      | .int x :: t => (match ls[i.val]? with
        | some _ => some (nx, ia_s1 ls i.val (.int x), t)
        | none => none)
      | _ => none
    | .lstore i => match st with
      | .long x :: t => (match ls[i + 1]? with
        | some _ => some (nx, ia_s2 ls i (.long x), t)
        | none => none)
      | _ => none
    | .lstore_n i => match st with
      | .long x :: t => (match ls[i.val + 1]? with
        | some _ => some (nx, ia_s2 ls i.val (.long x), t)
        | none => none)
      | _ => none
    | .astore i => match ls[i]? with
      | some _ => (match st with
        | .ref x :: t => some (nx, ia_s1 ls i (.ref x), t)
        | .null :: t => some (nx, ia_s1 ls i .null, t)
        | _ => none)
      | none => none
    | .astore_n i => match ls[i.val]? with
      | some _ => (match st with
        | .ref x :: t => some (nx, ia_s1 ls i.val (.ref x), t)
        | .null :: t => some (nx, ia_s1 ls i.val .null, t)
        | _ => none)
      | none => none
    | .iinc i n => match ls[i]? with
      | some (.int x) => some (nx, ia_s1 ls i (.int (x + Int32.ofInt n)), st)
      | _ => none
    | .iconst n => some (nx, ls, cst :: st)
    | .bipush n => some (nx, ls, cst :: st)
    | .sipush n => some (nx, ls, cst :: st)
    | .lconst n => some (nx, ls, cst :: st)
    | .goto _ => some (tg, ls, st)
    | .ifCond .eq off => match st with
      | .int x :: t => some (if x = 0 then tg else nx, ls, t)
      | _ => none
    | .ifCond .ne off => match st with
      | .int x :: t => some (if ¬ x = 0 then tg else nx, ls, t)
      | _ => none
    | .ifCond .lt off => match st with
      | .int x :: t => some (if x < 0 then tg else nx, ls, t)
      | _ => none
    | .ifCond .ge off => match st with
      | .int x :: t => some (if 0 ≤ x then tg else nx, ls, t)
      | _ => none
    | .ifCond .gt off => match st with
      | .int x :: t => some (if 0 < x then tg else nx, ls, t)
      | _ => none
    | .ifCond .le off => match st with
      | .int x :: t => some (if x ≤ 0 then tg else nx, ls, t)
      | _ => none
    | .if_icmp .eq off => match st with
      | .int y :: .int x :: t => some (if x = y then tg else nx, ls, t)
      | _ => none
    | .if_icmp .ne off => match st with
      | .int y :: .int x :: t => some (if ¬ x = y then tg else nx, ls, t)
      | _ => none
    | .if_icmp .lt off => match st with
      | .int y :: .int x :: t => some (if x < y then tg else nx, ls, t)
      | _ => none
    | .if_icmp .ge off => match st with
      | .int y :: .int x :: t => some (if y ≤ x then tg else nx, ls, t)
      | _ => none
    | .if_icmp .gt off => match st with
      | .int y :: .int x :: t => some (if y < x then tg else nx, ls, t)
      | _ => none
    | .if_icmp .le off => match st with
      | .int y :: .int x :: t => some (if x ≤ y then tg else nx, ls, t)
      | _ => none
    | .ifnull off => match st with
      | .ref _ :: t => some (nx, ls, t)
      | .null :: t => some (tg, ls, t)
      | _ => none
    | .ifnonnull off => match st with
      | .null :: t => some (nx, ls, t)
      | .ref _ :: t => some (tg, ls, t)
      | _ => none
    | .if_acmp .eq off => match st with
      | .ref b :: .ref a :: t => if 64 ≤ a ∧ 64 ≤ b then some (if a = b then tg else nx, ls, t) else none
      | .null :: .ref _ :: t => some (nx, ls, t)
      | .ref _ :: .null :: t => some (nx, ls, t)
      | .null :: .null :: t => some (tg, ls, t)
      | _ => none
    | .if_acmp .ne off => match st with
      | .ref b :: .ref a :: t => if 64 ≤ a ∧ 64 ≤ b then some (if a = b then nx else tg, ls, t) else none
      | .null :: .ref _ :: t => some (tg, ls, t)
      | .ref _ :: .null :: t => some (tg, ls, t)
      | .null :: .null :: t => some (nx, ls, t)
      | _ => none
    | .tableswitch d lo hi offs => match st with
      | .int x :: t => if x.toInt < lo ∨ hi < x.toInt then (if (0 : Int) ≤ (pc : Int) + d then some (ia_jp pc d, ls, t) else none) else (match offs[(x.toInt - lo).toNat]? with
        | some off => if (0 : Int) ≤ (pc : Int) + off then some (ia_jp pc off, ls, t) else none
        | none => none)
      | _ => none
    | .lookupswitch d ps => match st with
      | .int x :: t => if (ps.toList.zip (ps.toList.drop 1)).all (fun (a, next) => a.1 < next.1) = true then (if (0 : Int) ≤ (pc : Int) + Op.lookupswitch.offset ps.toList d x.toInt then some (ia_jp pc (Op.lookupswitch.offset ps.toList d x.toInt), ls, t) else none) else none
      | _ => none
    | _ => none
theorem ia_jp_eq {pc : Nat} {off : Int} (h : (0 : Int) ≤ (pc : Int) + off) : (pc : Int) + off = ((ia_jp pc off : Nat) : Int) := by unfold ia_jp; omega
/-- a row is what stands in the code -/
def ia_xok (pc tg : Nat) (cst : Value) (i : Instr) : Bool := match i with
  | .iconst n => decide (cst = .int (Int32.ofInt n))
  | .bipush n => decide (cst = .int (Int8.ofInt n).toInt32)
  | .sipush n => decide (cst = .int (Int16.ofInt n).toInt32)
  | .lconst n => decide (cst = .long (Int64.ofNat (n : Nat)))
  | .goto off => decide ((pc : Int) + off = (tg : Int))
  | .ifCond _ off => decide ((pc : Int) + off = (tg : Int))
  | .if_icmp _ off => decide ((pc : Int) + off = (tg : Int))
  | .if_acmp _ off => decide ((pc : Int) + off = (tg : Int))
  | .ifnull off => decide ((pc : Int) + off = (tg : Int))
  | .ifnonnull off => decide ((pc : Int) + off = (tg : Int))
  | _ => true
def ia_dec (cc : ByteArray) (q : Nat × ia_R) : Bool := match q.2.1 with
  | .tableswitch _ _ _ _ => (match decode cc q.1 with
    | .ok (j, _) => decide (j = q.2.1)
    | _ => false)
  | .lookupswitch _ _ => (match decode cc q.1 with
    | .ok (j, _) => decide (j = q.2.1)
    | _ => false)
  | i => decide (decode cc q.1 = .ok (i, ia_len i)) && (decide (q.2.2.1 = q.1 + ia_len i) && ia_xok q.1 q.2.2.2.1 q.2.2.2.2.2 i)
section IA2
variable {p : Program} {l : Launch} {e : Env} {R : Room} {s : State} {m : MethodId} {args : Array Value} {below : List Frame} {meth : Method} {c : Code} {H : Heap} {locs : List Loc} {cells slots : Nat} {Q : State → Prop}
set_option maxHeartbeats 4000000 in
theorem ia_pure {G : ia_G} {cc : ByteArray} {pc nL pc' : Nat} {r : ia_R} {lc : Array Slot} {ls st ls' st' : List Value} (hx : p.tables.exec = Jvm.exec) (hb : c.code = cc) (hdec : ia_dec cc (pc, r) = true) (hl : ia_ls G lc nL ls) (h : ia_pu pc r ls st = some (pc', ls', st'))
    (kk : ∀ lc' : Array Slot, ia_ls G lc' nL ls' → W p l e R s m args below meth c H locs cells slots Q (F0 m pc' lc' (st'.map (ia_cv G)))) : W p l e R s m args below meth c H locs cells slots Q (F0 m pc lc (st.map (ia_cv G))) := by
  obtain ⟨i, nx, tg, r2, cst⟩ := r
  unfold ia_pu at h
  unfold ia_dec at hdec
  dsimp only at h hdec
  cases i with
  | iadd  =>
    obtain ⟨hd0, hdec0⟩ := Bool.and_eq_true_iff.mp hdec
    obtain ⟨hn0, hxo⟩ := Bool.and_eq_true_iff.mp hdec0
    have hd := of_decide_eq_true hd0
    have hn := of_decide_eq_true hn0
    clear hd0 hn0 hdec0 hdec
    subst hn
    dsimp only at h
    split at h
    next => cases h; exact lv_iadd hx hb hd (kk _ hl)
    next => cases h
  | isub  =>
    obtain ⟨hd0, hdec0⟩ := Bool.and_eq_true_iff.mp hdec
    obtain ⟨hn0, hxo⟩ := Bool.and_eq_true_iff.mp hdec0
    have hd := of_decide_eq_true hd0
    have hn := of_decide_eq_true hn0
    clear hd0 hn0 hdec0 hdec
    subst hn
    dsimp only at h
    split at h
    next => cases h; exact lv_isub hx hb hd (kk _ hl)
    next => cases h
  | imul  =>
    obtain ⟨hd0, hdec0⟩ := Bool.and_eq_true_iff.mp hdec
    obtain ⟨hn0, hxo⟩ := Bool.and_eq_true_iff.mp hdec0
    have hd := of_decide_eq_true hd0
    have hn := of_decide_eq_true hn0
    clear hd0 hn0 hdec0 hdec
    subst hn
    dsimp only at h
    split at h
    next => cases h; exact lv_imul hx hb hd (kk _ hl)
    next => cases h
  | iand  =>
    obtain ⟨hd0, hdec0⟩ := Bool.and_eq_true_iff.mp hdec
    obtain ⟨hn0, hxo⟩ := Bool.and_eq_true_iff.mp hdec0
    have hd := of_decide_eq_true hd0
    have hn := of_decide_eq_true hn0
    clear hd0 hn0 hdec0 hdec
    subst hn
    dsimp only at h
    split at h
    next => cases h; exact lv_iand hx hb hd (kk _ hl)
    next => cases h
  | ior  =>
    obtain ⟨hd0, hdec0⟩ := Bool.and_eq_true_iff.mp hdec
    obtain ⟨hn0, hxo⟩ := Bool.and_eq_true_iff.mp hdec0
    have hd := of_decide_eq_true hd0
    have hn := of_decide_eq_true hn0
    clear hd0 hn0 hdec0 hdec
    subst hn
    dsimp only at h
    split at h
    next => cases h; exact lv_ior hx hb hd (kk _ hl)
    next => cases h
  | ixor  =>
    obtain ⟨hd0, hdec0⟩ := Bool.and_eq_true_iff.mp hdec
    obtain ⟨hn0, hxo⟩ := Bool.and_eq_true_iff.mp hdec0
    have hd := of_decide_eq_true hd0
    have hn := of_decide_eq_true hn0
    clear hd0 hn0 hdec0 hdec
    subst hn
    dsimp only at h
    split at h
    next => cases h; exact lv_ixor hx hb hd (kk _ hl)
    next => cases h
  | ishl  =>
    obtain ⟨hd0, hdec0⟩ := Bool.and_eq_true_iff.mp hdec
    obtain ⟨hn0, hxo⟩ := Bool.and_eq_true_iff.mp hdec0
    have hd := of_decide_eq_true hd0
    have hn := of_decide_eq_true hn0
    clear hd0 hn0 hdec0 hdec
    subst hn
    dsimp only at h
    split at h
    next => cases h; exact lv_ishl hx hb hd (kk _ hl)
    next => cases h
  | ishr  =>
    obtain ⟨hd0, hdec0⟩ := Bool.and_eq_true_iff.mp hdec
    obtain ⟨hn0, hxo⟩ := Bool.and_eq_true_iff.mp hdec0
    have hd := of_decide_eq_true hd0
    have hn := of_decide_eq_true hn0
    clear hd0 hn0 hdec0 hdec
    subst hn
    dsimp only at h
    split at h
    next => cases h; exact lv_ishr hx hb hd (kk _ hl)
    next => cases h
  | iushr  =>
    obtain ⟨hd0, hdec0⟩ := Bool.and_eq_true_iff.mp hdec
    obtain ⟨hn0, hxo⟩ := Bool.and_eq_true_iff.mp hdec0
    have hd := of_decide_eq_true hd0
    have hn := of_decide_eq_true hn0
    clear hd0 hn0 hdec0 hdec
    subst hn
    dsimp only at h
    split at h
    next => cases h; exact lv_iushr hx hb hd rfl (kk _ hl)
    next => cases h
  | idiv  =>
    obtain ⟨hd0, hdec0⟩ := Bool.and_eq_true_iff.mp hdec
    obtain ⟨hn0, hxo⟩ := Bool.and_eq_true_iff.mp hdec0
    have hd := of_decide_eq_true hd0
    have hn := of_decide_eq_true hn0
    clear hd0 hn0 hdec0 hdec
    subst hn
    dsimp only at h
    split at h
    next =>
      split at h
      next => cases h
      next hc => cases h; exact lv_idiv hx hb hd hc (kk _ hl)
    next => cases h
  | irem  =>
    obtain ⟨hd0, hdec0⟩ := Bool.and_eq_true_iff.mp hdec
    obtain ⟨hn0, hxo⟩ := Bool.and_eq_true_iff.mp hdec0
    have hd := of_decide_eq_true hd0
    have hn := of_decide_eq_true hn0
    clear hd0 hn0 hdec0 hdec
    subst hn
    dsimp only at h
    split at h
    next =>
      split at h
      next => cases h
      next hc => cases h; exact lv_irem hx hb hd hc (kk _ hl)
    next => cases h
  | ineg  =>
    obtain ⟨hd0, hdec0⟩ := Bool.and_eq_true_iff.mp hdec
    obtain ⟨hn0, hxo⟩ := Bool.and_eq_true_iff.mp hdec0
    have hd := of_decide_eq_true hd0
    have hn := of_decide_eq_true hn0
    clear hd0 hn0 hdec0 hdec
    subst hn
    dsimp only at h
    split at h
    next => cases h; exact lv_ineg hx hb hd (kk _ hl)
    next => cases h
  | ladd  =>
    obtain ⟨hd0, hdec0⟩ := Bool.and_eq_true_iff.mp hdec
    obtain ⟨hn0, hxo⟩ := Bool.and_eq_true_iff.mp hdec0
    have hd := of_decide_eq_true hd0
    have hn := of_decide_eq_true hn0
    clear hd0 hn0 hdec0 hdec
    subst hn
    dsimp only at h
    split at h
    next => cases h; exact lv_ladd hx hb hd (kk _ hl)
    next => cases h
  | lsub  =>
    obtain ⟨hd0, hdec0⟩ := Bool.and_eq_true_iff.mp hdec
    obtain ⟨hn0, hxo⟩ := Bool.and_eq_true_iff.mp hdec0
    have hd := of_decide_eq_true hd0
    have hn := of_decide_eq_true hn0
    clear hd0 hn0 hdec0 hdec
    subst hn
    dsimp only at h
    split at h
    next => cases h; exact lv_lsub hx hb hd (kk _ hl)
    next => cases h
  | lmul  =>
    obtain ⟨hd0, hdec0⟩ := Bool.and_eq_true_iff.mp hdec
    obtain ⟨hn0, hxo⟩ := Bool.and_eq_true_iff.mp hdec0
    have hd := of_decide_eq_true hd0
    have hn := of_decide_eq_true hn0
    clear hd0 hn0 hdec0 hdec
    subst hn
    dsimp only at h
    split at h
    next => cases h; exact lv_lmul hx hb hd (kk _ hl)
    next => cases h
  | land  =>
    obtain ⟨hd0, hdec0⟩ := Bool.and_eq_true_iff.mp hdec
    obtain ⟨hn0, hxo⟩ := Bool.and_eq_true_iff.mp hdec0
    have hd := of_decide_eq_true hd0
    have hn := of_decide_eq_true hn0
    clear hd0 hn0 hdec0 hdec
    subst hn
    dsimp only at h
    split at h
    next => cases h; exact lv_land hx hb hd (kk _ hl)
    next => cases h
  | lor  =>
    obtain ⟨hd0, hdec0⟩ := Bool.and_eq_true_iff.mp hdec
    obtain ⟨hn0, hxo⟩ := Bool.and_eq_true_iff.mp hdec0
    have hd := of_decide_eq_true hd0
    have hn := of_decide_eq_true hn0
    clear hd0 hn0 hdec0 hdec
    subst hn
    dsimp only at h
    split at h
    next => cases h; exact lv_lor hx hb hd (kk _ hl)
    next => cases h
  | lxor  =>
    obtain ⟨hd0, hdec0⟩ := Bool.and_eq_true_iff.mp hdec
    obtain ⟨hn0, hxo⟩ := Bool.and_eq_true_iff.mp hdec0
    have hd := of_decide_eq_true hd0
    have hn := of_decide_eq_true hn0
    clear hd0 hn0 hdec0 hdec
    subst hn
    dsimp only at h
    split at h
    next => cases h; exact lv_lxor hx hb hd (kk _ hl)
    next => cases h
  | lneg  =>
    obtain ⟨hd0, hdec0⟩ := Bool.and_eq_true_iff.mp hdec
    obtain ⟨hn0, hxo⟩ := Bool.and_eq_true_iff.mp hdec0
    have hd := of_decide_eq_true hd0
    have hn := of_decide_eq_true hn0
    clear hd0 hn0 hdec0 hdec
    subst hn
    dsimp only at h
    split at h
    next => cases h; exact lv_lneg hx hb hd (kk _ hl)
    next => cases h
  | lshl  =>
    obtain ⟨hd0, hdec0⟩ := Bool.and_eq_true_iff.mp hdec
    obtain ⟨hn0, hxo⟩ := Bool.and_eq_true_iff.mp hdec0
    have hd := of_decide_eq_true hd0
    have hn := of_decide_eq_true hn0
    clear hd0 hn0 hdec0 hdec
    subst hn
    dsimp only at h
    split at h
    next => cases h; exact lv_lshl hx hb hd rfl (kk _ hl)
    next => cases h
  | lshr  =>
    obtain ⟨hd0, hdec0⟩ := Bool.and_eq_true_iff.mp hdec
    obtain ⟨hn0, hxo⟩ := Bool.and_eq_true_iff.mp hdec0
    have hd := of_decide_eq_true hd0
    have hn := of_decide_eq_true hn0
    clear hd0 hn0 hdec0 hdec
    subst hn
    dsimp only at h
    split at h
    next => cases h; exact lv_lshr hx hb hd rfl (kk _ hl)
    next => cases h
  | lushr  =>
    obtain ⟨hd0, hdec0⟩ := Bool.and_eq_true_iff.mp hdec
    obtain ⟨hn0, hxo⟩ := Bool.and_eq_true_iff.mp hdec0
    have hd := of_decide_eq_true hd0
    have hn := of_decide_eq_true hn0
    clear hd0 hn0 hdec0 hdec
    subst hn
    dsimp only at h
    split at h
    next => cases h; exact lv_lushr hx hb hd rfl (kk _ hl)
    next => cases h
  | lcmp  =>
    obtain ⟨hd0, hdec0⟩ := Bool.and_eq_true_iff.mp hdec
    obtain ⟨hn0, hxo⟩ := Bool.and_eq_true_iff.mp hdec0
    have hd := of_decide_eq_true hd0
    have hn := of_decide_eq_true hn0
    clear hd0 hn0 hdec0 hdec
    subst hn
    dsimp only at h
    split at h
    next => cases h; exact W.lcmp hx hb hd (kk _ hl)
    next => cases h
  | i2l  =>
    obtain ⟨hd0, hdec0⟩ := Bool.and_eq_true_iff.mp hdec
    obtain ⟨hn0, hxo⟩ := Bool.and_eq_true_iff.mp hdec0
    have hd := of_decide_eq_true hd0
    have hn := of_decide_eq_true hn0
    clear hd0 hn0 hdec0 hdec
    subst hn
    dsimp only at h
    split at h
    next => cases h; exact lv_i2l hx hb hd rfl (kk _ hl)
    next => cases h
  | l2i  =>
    obtain ⟨hd0, hdec0⟩ := Bool.and_eq_true_iff.mp hdec
    obtain ⟨hn0, hxo⟩ := Bool.and_eq_true_iff.mp hdec0
    have hd := of_decide_eq_true hd0
    have hn := of_decide_eq_true hn0
    clear hd0 hn0 hdec0 hdec
    subst hn
    dsimp only at h
    split at h
    next => cases h; exact lv_l2i hx hb hd rfl (kk _ hl)
    next => cases h
  | i2b  =>
    obtain ⟨hd0, hdec0⟩ := Bool.and_eq_true_iff.mp hdec
    obtain ⟨hn0, hxo⟩ := Bool.and_eq_true_iff.mp hdec0
    have hd := of_decide_eq_true hd0
    have hn := of_decide_eq_true hn0
    clear hd0 hn0 hdec0 hdec
    subst hn
    dsimp only at h
    split at h
    next => cases h; exact lv_i2b hx hb hd rfl (kk _ hl)
    next => cases h
  | i2c  =>
    obtain ⟨hd0, hdec0⟩ := Bool.and_eq_true_iff.mp hdec
    obtain ⟨hn0, hxo⟩ := Bool.and_eq_true_iff.mp hdec0
    have hd := of_decide_eq_true hd0
    have hn := of_decide_eq_true hn0
    clear hd0 hn0 hdec0 hdec
    subst hn
    dsimp only at h
    split at h
    next => cases h; exact lv_i2c hx hb hd rfl (kk _ hl)
    next => cases h
  | aconst_null  =>
    obtain ⟨hd0, hdec0⟩ := Bool.and_eq_true_iff.mp hdec
    obtain ⟨hn0, hxo⟩ := Bool.and_eq_true_iff.mp hdec0
    have hd := of_decide_eq_true hd0
    have hn := of_decide_eq_true hn0
    clear hd0 hn0 hdec0 hdec
    subst hn
    dsimp only at h
    cases h; exact lv_null hx hb hd (kk _ hl)
  | dup  =>
    obtain ⟨hd0, hdec0⟩ := Bool.and_eq_true_iff.mp hdec
    obtain ⟨hn0, hxo⟩ := Bool.and_eq_true_iff.mp hdec0
    have hd := of_decide_eq_true hd0
    have hn := of_decide_eq_true hn0
    clear hd0 hn0 hdec0 hdec
    subst hn
    dsimp only at h
    split at h
    next =>
      split at h
      next hc => cases h; exact lv_dup hx hb hd (ia_c1_use hc) (kk _ hl)
      next => cases h
    next => cases h
  | pop  =>
    obtain ⟨hd0, hdec0⟩ := Bool.and_eq_true_iff.mp hdec
    obtain ⟨hn0, hxo⟩ := Bool.and_eq_true_iff.mp hdec0
    have hd := of_decide_eq_true hd0
    have hn := of_decide_eq_true hn0
    clear hd0 hn0 hdec0 hdec
    subst hn
    dsimp only at h
    split at h
    next =>
      split at h
      next hc => cases h; exact lv_pop hx hb hd (ia_c1_use hc) (kk _ hl)
      next => cases h
    next => cases h
  | dup_x1  =>
    obtain ⟨hd0, hdec0⟩ := Bool.and_eq_true_iff.mp hdec
    obtain ⟨hn0, hxo⟩ := Bool.and_eq_true_iff.mp hdec0
    have hd := of_decide_eq_true hd0
    have hn := of_decide_eq_true hn0
    clear hd0 hn0 hdec0 hdec
    subst hn
    dsimp only at h
    split at h
    next =>
      split at h
      next hc => cases h; exact lv_dup_x1 hx hb hd (ia_c1_use hc.1) (ia_c1_use hc.2) (kk _ hl)
      next => cases h
    next => cases h
  | dup_x2  =>
    obtain ⟨hd0, hdec0⟩ := Bool.and_eq_true_iff.mp hdec
    obtain ⟨hn0, hxo⟩ := Bool.and_eq_true_iff.mp hdec0
    have hd := of_decide_eq_true hd0
    have hn := of_decide_eq_true hn0
    clear hd0 hn0 hdec0 hdec
    subst hn
    dsimp only at h
    split at h
    next =>
      split at h
      next hc => cases h; exact lv_dup_x2 hx hb hd (ia_c1_use hc.1) (ia_c1_use hc.2.1) (ia_c1_use hc.2.2) (kk _ hl)
      next => cases h
    next => cases h
  | dup2  =>
    obtain ⟨hd0, hdec0⟩ := Bool.and_eq_true_iff.mp hdec
    obtain ⟨hn0, hxo⟩ := Bool.and_eq_true_iff.mp hdec0
    have hd := of_decide_eq_true hd0
    have hn := of_decide_eq_true hn0
    clear hd0 hn0 hdec0 hdec
    subst hn
    dsimp only at h
    split at h
    next v t =>
      split at h
      next hc => cases h; exact lv_dup2_2 hx hb hd (ia_c2_use hc) (kk _ hl)
      next hc0 =>
        split at h
        next u t2 =>
          split at h
          next hc => cases h; exact lv_dup2_11 hx hb hd (ia_c1_use hc.1) (ia_c1_use hc.2) (kk _ hl)
          next => cases h
        next => cases h
    next => cases h
  | dup2_x1  =>
    obtain ⟨hd0, hdec0⟩ := Bool.and_eq_true_iff.mp hdec
    obtain ⟨hn0, hxo⟩ := Bool.and_eq_true_iff.mp hdec0
    have hd := of_decide_eq_true hd0
    have hn := of_decide_eq_true hn0
    clear hd0 hn0 hdec0 hdec
    subst hn
    dsimp only at h
    split at h
    next v u t =>
      split at h
      next hc => cases h; exact lv_dup2_x1_2 hx hb hd (ia_c2_use hc.1) (ia_c1_use hc.2) (kk _ hl)
      next => cases h
    next => cases h
  | dup2_x2  =>
    obtain ⟨hd0, hdec0⟩ := Bool.and_eq_true_iff.mp hdec
    obtain ⟨hn0, hxo⟩ := Bool.and_eq_true_iff.mp hdec0
    have hd := of_decide_eq_true hd0
    have hn := of_decide_eq_true hn0
    clear hd0 hn0 hdec0 hdec
    subst hn
    dsimp only at h
    split at h
    next v u z t =>
      split at h
      next hc => cases h; exact lv_dup2_x2_2 hx hb hd (ia_c2_use hc.1) (ia_c1_use hc.2.1) (ia_c1_use hc.2.2) (kk _ hl)
      next => cases h
    next => cases h
  | iload i =>
    obtain ⟨hd0, hdec0⟩ := Bool.and_eq_true_iff.mp hdec
    obtain ⟨hn0, hxo⟩ := Bool.and_eq_true_iff.mp hdec0
    have hd := of_decide_eq_true hd0
    have hn := of_decide_eq_true hn0
    clear hd0 hn0 hdec0 hdec
    subst hn
    dsimp only at h
    split at h
    next x hg => cases h; exact lv_iload hx hb hd (hl.get hg rfl) (kk _ hl)
    next => cases h
  | iload_n i =>
    obtain ⟨hd0, hdec0⟩ := Bool.and_eq_true_iff.mp hdec
    obtain ⟨hn0, hxo⟩ := Bool.and_eq_true_iff.mp hdec0
    have hd := of_decide_eq_true hd0
    have hn := of_decide_eq_true hn0
    clear hd0 hn0 hdec0 hdec
    subst hn
    dsimp only at h
    split at h
    next x hg => cases h; exact lv_iload_n hx hb hd rfl (hl.get hg rfl) (kk _ hl)
    next => cases h
  | lload i =>
    obtain ⟨hd0, hdec0⟩ := Bool.and_eq_true_iff.mp hdec
    obtain ⟨hn0, hxo⟩ := Bool.and_eq_true_iff.mp hdec0
    have hd := of_decide_eq_true hd0
    have hn := of_decide_eq_true hn0
    clear hd0 hn0 hdec0 hdec
    subst hn
    dsimp only at h
    split at h
    next x hg => cases h; exact lv_lload hx hb hd (hl.get hg rfl) (kk _ hl)
    next => cases h
  | lload_n i =>
    obtain ⟨hd0, hdec0⟩ := Bool.and_eq_true_iff.mp hdec
    obtain ⟨hn0, hxo⟩ := Bool.and_eq_true_iff.mp hdec0
    have hd := of_decide_eq_true hd0
    have hn := of_decide_eq_true hn0
    clear hd0 hn0 hdec0 hdec
    subst hn
    dsimp only at h
    split at h
    next x hg => cases h; exact lv_lload_n hx hb hd rfl (hl.get hg rfl) (kk _ hl)
    next => cases h
  | aload i =>
    obtain ⟨hd0, hdec0⟩ := Bool.and_eq_true_iff.mp hdec
    obtain ⟨hn0, hxo⟩ := Bool.and_eq_true_iff.mp hdec0
    have hd := of_decide_eq_true hd0
    have hn := of_decide_eq_true hn0
    clear hd0 hn0 hdec0 hdec
    subst hn
    dsimp only at h
    split at h
    next x hg => cases h; exact lv_aload hx hb hd (hl.get hg rfl) (kk _ hl)
    next hg => cases h; exact lv_aloadN hx hb hd (hl.get hg rfl) (kk _ hl)
    next => cases h
  | aload_n i =>
    obtain ⟨hd0, hdec0⟩ := Bool.and_eq_true_iff.mp hdec
    obtain ⟨hn0, hxo⟩ := Bool.and_eq_true_iff.mp hdec0
    have hd := of_decide_eq_true hd0
    have hn := of_decide_eq_true hn0
    clear hd0 hn0 hdec0 hdec
    subst hn
    dsimp only at h
    split at h
    next x hg => cases h; exact lv_aload_n hx hb hd rfl (hl.get hg rfl) (kk _ hl)
    next hg => cases h; exact lv_aload_nN hx hb hd rfl (hl.get hg rfl) (kk _ hl)
    next => cases h
  | istore i =>
    obtain ⟨hd0, hdec0⟩ := Bool.and_eq_true_iff.mp hdec
    obtain ⟨hn0, hxo⟩ := Bool.and_eq_true_iff.mp hdec0
    have hd := of_decide_eq_true hd0
    have hn := of_decide_eq_true hn0
    clear hd0 hn0 hdec0 hdec
    subst hn
    dsimp only at h
    split at h
    next x t =>
      split at h
      next hg => cases h; exact lv_istore hx hb hd hl.1 (hl.lt hg) rfl (fun lc' h' => kk lc' (hl.put1 (v := .int x) h'))
      next => cases h
    next => cases h
  | istore_n i =>
    obtain ⟨hd0, hdec0⟩ := Bool.and_eq_true_iff.mp hdec
    obtain ⟨hn0, hxo⟩ := Bool.and_eq_true_iff.mp hdec0
    have hd := of_decide_eq_true hd0
    have hn := of_decide_eq_true hn0
    clear hd0 hn0 hdec0 hdec
    subst hn
    dsimp only at h
    split at h
    next x t =>
      split at h
      next hg => cases h; exact lv_istore_n hx hb hd rfl hl.1 (hl.lt hg) rfl (fun lc' h' => kk lc' (hl.put1 (v := .int x) h'))
      next => cases h
    next => cases h
  | lstore i =>
    obtain ⟨hd0, hdec0⟩ := Bool.and_eq_true_iff.mp hdec
    obtain ⟨hn0, hxo⟩ := Bool.and_eq_true_iff.mp hdec0
    have hd := of_decide_eq_true hd0
    have hn := of_decide_eq_true hn0
    clear hd0 hn0 hdec0 hdec
    subst hn
    dsimp only at h
    split at h
    next x t =>
      split at h
      next hg => cases h; exact lv_lstore hx hb hd hl.1 (hl.lt hg) rfl (fun lc' h' => kk lc' (hl.put2 (v := .long x) h'))
      next => cases h
    next => cases h
  | lstore_n i =>
    obtain ⟨hd0, hdec0⟩ := Bool.and_eq_true_iff.mp hdec
    obtain ⟨hn0, hxo⟩ := Bool.and_eq_true_iff.mp hdec0
    have hd := of_decide_eq_true hd0
    have hn := of_decide_eq_true hn0
    clear hd0 hn0 hdec0 hdec
    subst hn
    dsimp only at h
    split at h
    next x t =>
      split at h
      next hg => cases h; exact lv_lstore_n hx hb hd rfl hl.1 (hl.lt hg) rfl (fun lc' h' => kk lc' (hl.put2 (v := .long x) h'))
      next => cases h
    next => cases h
  | astore i =>
    obtain ⟨hd0, hdec0⟩ := Bool.and_eq_true_iff.mp hdec
    obtain ⟨hn0, hxo⟩ := Bool.and_eq_true_iff.mp hdec0
    have hd := of_decide_eq_true hd0
    have hn := of_decide_eq_true hn0
    clear hd0 hn0 hdec0 hdec
    subst hn
    dsimp only at h
    split at h
    next hg =>
      split at h
      next x t => cases h; exact lv_astore hx hb hd hl.1 (hl.lt hg) rfl (fun lc' h' => kk lc' (hl.put1 (v := .ref x) h'))
      next t => cases h; exact lv_astoreN hx hb hd hl.1 (hl.lt hg) rfl (fun lc' h' => kk lc' (hl.put1 (v := .null) h'))
      next => cases h
    next => cases h
  | astore_n i =>
    obtain ⟨hd0, hdec0⟩ := Bool.and_eq_true_iff.mp hdec
    obtain ⟨hn0, hxo⟩ := Bool.and_eq_true_iff.mp hdec0
    have hd := of_decide_eq_true hd0
    have hn := of_decide_eq_true hn0
    clear hd0 hn0 hdec0 hdec
    subst hn
    dsimp only at h
    split at h
    next hg =>
      split at h
      next x t => cases h; exact lv_astore_n hx hb hd rfl hl.1 (hl.lt hg) rfl (fun lc' h' => kk lc' (hl.put1 (v := .ref x) h'))
      next t => cases h; exact lv_astore_nN hx hb hd rfl hl.1 (hl.lt hg) rfl (fun lc' h' => kk lc' (hl.put1 (v := .null) h'))
      next => cases h
    next => cases h
  | iinc i n =>
    obtain ⟨hd0, hdec0⟩ := Bool.and_eq_true_iff.mp hdec
    obtain ⟨hn0, hxo⟩ := Bool.and_eq_true_iff.mp hdec0
    have hd := of_decide_eq_true hd0
    have hn := of_decide_eq_true hn0
    clear hd0 hn0 hdec0 hdec
    subst hn
    dsimp only at h
    split at h
    next x hg =>
      cases h
      obtain ⟨k0, hk0⟩ := List.getElem?_of_mem (ia_pl_mem (G := G) (q := (i, .int x)).mpr ⟨_, hg, rfl, rfl⟩)
      exact lv_iinc hx hb hd hl.1 hk0 rfl (hl.lt hg) rfl (fun lc' h' => kk lc' (hl.put1 (v := .int (x + Int32.ofInt n)) h'))
    next => cases h
  | iconst n =>
    obtain ⟨hd0, hdec0⟩ := Bool.and_eq_true_iff.mp hdec
    obtain ⟨hn0, hxo⟩ := Bool.and_eq_true_iff.mp hdec0
    have hd := of_decide_eq_true hd0
    have hn := of_decide_eq_true hn0
    clear hd0 hn0 hdec0 hdec
    subst hn
    dsimp only at h
    have hc := of_decide_eq_true hxo
    subst hc
    cases h
    exact lv_iconst hx hb hd rfl (kk _ hl)
  | bipush n =>
    obtain ⟨hd0, hdec0⟩ := Bool.and_eq_true_iff.mp hdec
    obtain ⟨hn0, hxo⟩ := Bool.and_eq_true_iff.mp hdec0
    have hd := of_decide_eq_true hd0
    have hn := of_decide_eq_true hn0
    clear hd0 hn0 hdec0 hdec
    subst hn
    dsimp only at h
    have hc := of_decide_eq_true hxo
    subst hc
    cases h
    exact lv_bipush hx hb hd rfl (kk _ hl)
  | sipush n =>
    obtain ⟨hd0, hdec0⟩ := Bool.and_eq_true_iff.mp hdec
    obtain ⟨hn0, hxo⟩ := Bool.and_eq_true_iff.mp hdec0
    have hd := of_decide_eq_true hd0
    have hn := of_decide_eq_true hn0
    clear hd0 hn0 hdec0 hdec
    subst hn
    dsimp only at h
    have hc := of_decide_eq_true hxo
    subst hc
    cases h
    exact lv_sipush hx hb hd rfl (kk _ hl)
  | lconst n =>
    obtain ⟨hd0, hdec0⟩ := Bool.and_eq_true_iff.mp hdec
    obtain ⟨hn0, hxo⟩ := Bool.and_eq_true_iff.mp hdec0
    have hd := of_decide_eq_true hd0
    have hn := of_decide_eq_true hn0
    clear hd0 hn0 hdec0 hdec
    subst hn
    dsimp only at h
    have hc := of_decide_eq_true hxo
    subst hc
    cases h
    exact lv_lconst hx hb hd rfl (kk _ hl)
  | goto off =>
    obtain ⟨hd0, hdec0⟩ := Bool.and_eq_true_iff.mp hdec
    obtain ⟨hn0, hxo⟩ := Bool.and_eq_true_iff.mp hdec0
    have hd := of_decide_eq_true hd0
    have hn := of_decide_eq_true hn0
    clear hd0 hn0 hdec0 hdec
    subst hn
    dsimp only at h
    cases h
    exact lv_goto hx hb hd (of_decide_eq_true hxo) (kk _ hl)
  | ifCond cnd off =>
    obtain ⟨hd0, hdec0⟩ := Bool.and_eq_true_iff.mp hdec
    obtain ⟨hn0, hxo⟩ := Bool.and_eq_true_iff.mp hdec0
    have hd := of_decide_eq_true hd0
    have hn := of_decide_eq_true hn0
    clear hd0 hn0 hdec0 hdec
    subst hn
    cases cnd with
    | eq =>
      dsimp only at h hxo
      split at h
      next x t =>
          cases h
          exact lv_if_eq hx hb hd (of_decide_eq_true hxo) (fun z => by rw [if_pos z] at kk; exact kk _ hl) (fun z => by rw [if_neg z] at kk; exact kk _ hl)
      next => cases h
    | ne =>
      dsimp only at h hxo
      split at h
      next x t =>
          cases h
          exact lv_if_ne hx hb hd (of_decide_eq_true hxo) (fun z => by rw [if_pos z] at kk; exact kk _ hl) (fun z => by rw [if_neg (fun q => q z)] at kk; exact kk _ hl)
      next => cases h
    | lt =>
      dsimp only at h hxo
      split at h
      next x t =>
          cases h
          exact lv_if_lt hx hb hd (of_decide_eq_true hxo) (fun z => by rw [if_pos z] at kk; exact kk _ hl) (fun z => by rw [if_neg z] at kk; exact kk _ hl)
      next => cases h
    | ge =>
      dsimp only at h hxo
      split at h
      next x t =>
          cases h
          exact lv_if_ge hx hb hd (of_decide_eq_true hxo) (fun z => by rw [if_pos z] at kk; exact kk _ hl) (fun z => by rw [if_neg z] at kk; exact kk _ hl)
      next => cases h
    | gt =>
      dsimp only at h hxo
      split at h
      next x t =>
          cases h
          exact lv_if_gt hx hb hd (of_decide_eq_true hxo) (fun z => by rw [if_pos z] at kk; exact kk _ hl) (fun z => by rw [if_neg z] at kk; exact kk _ hl)
      next => cases h
    | le =>
      dsimp only at h hxo
      split at h
      next x t =>
          cases h
          exact lv_if_le hx hb hd (of_decide_eq_true hxo) (fun z => by rw [if_pos z] at kk; exact kk _ hl) (fun z => by rw [if_neg z] at kk; exact kk _ hl)
      next => cases h
  | if_icmp cnd off =>
    obtain ⟨hd0, hdec0⟩ := Bool.and_eq_true_iff.mp hdec
    obtain ⟨hn0, hxo⟩ := Bool.and_eq_true_iff.mp hdec0
    have hd := of_decide_eq_true hd0
    have hn := of_decide_eq_true hn0
    clear hd0 hn0 hdec0 hdec
    subst hn
    cases cnd with
    | eq =>
      dsimp only at h hxo
      split at h
      next x y t =>
          cases h
          exact lv_icmp_eq hx hb hd (of_decide_eq_true hxo) (fun z => by rw [if_pos z] at kk; exact kk _ hl) (fun z => by rw [if_neg z] at kk; exact kk _ hl)
      next => cases h
    | ne =>
      dsimp only at h hxo
      split at h
      next x y t =>
          cases h
          exact lv_icmp_ne hx hb hd (of_decide_eq_true hxo) (fun z => by rw [if_pos z] at kk; exact kk _ hl) (fun z => by rw [if_neg (fun q => q z)] at kk; exact kk _ hl)
      next => cases h
    | lt =>
      dsimp only at h hxo
      split at h
      next x y t =>
          cases h
          exact lv_icmp_lt hx hb hd (of_decide_eq_true hxo) (fun z => by rw [if_pos z] at kk; exact kk _ hl) (fun z => by rw [if_neg z] at kk; exact kk _ hl)
      next => cases h
    | ge =>
      dsimp only at h hxo
      split at h
      next x y t =>
          cases h
          exact lv_icmp_ge hx hb hd (of_decide_eq_true hxo) (fun z => by rw [if_pos z] at kk; exact kk _ hl) (fun z => by rw [if_neg z] at kk; exact kk _ hl)
      next => cases h
    | gt =>
      dsimp only at h hxo
      split at h
      next x y t =>
          cases h
          exact lv_icmp_gt hx hb hd (of_decide_eq_true hxo) (fun z => by rw [if_pos z] at kk; exact kk _ hl) (fun z => by rw [if_neg z] at kk; exact kk _ hl)
      next => cases h
    | le =>
      dsimp only at h hxo
      split at h
      next x y t =>
          cases h
          exact lv_icmp_le hx hb hd (of_decide_eq_true hxo) (fun z => by rw [if_pos z] at kk; exact kk _ hl) (fun z => by rw [if_neg z] at kk; exact kk _ hl)
      next => cases h
  | ifnull off =>
    obtain ⟨hd0, hdec0⟩ := Bool.and_eq_true_iff.mp hdec
    obtain ⟨hn0, hxo⟩ := Bool.and_eq_true_iff.mp hdec0
    have hd := of_decide_eq_true hd0
    have hn := of_decide_eq_true hn0
    clear hd0 hn0 hdec0 hdec
    subst hn
    dsimp only at h
    split at h
    next x t => cases h; exact lv_ifnull hx hb hd (kk _ hl)
    next t => cases h; exact lv_ifnullN hx hb hd (of_decide_eq_true hxo) (kk _ hl)
    next => cases h
  | ifnonnull off =>
    obtain ⟨hd0, hdec0⟩ := Bool.and_eq_true_iff.mp hdec
    obtain ⟨hn0, hxo⟩ := Bool.and_eq_true_iff.mp hdec0
    have hd := of_decide_eq_true hd0
    have hn := of_decide_eq_true hn0
    clear hd0 hn0 hdec0 hdec
    subst hn
    dsimp only at h
    split at h
    next t => cases h; exact lv_ifnonnullN hx hb hd (kk _ hl)
    next x t => cases h; exact lv_ifnonnull hx hb hd (of_decide_eq_true hxo) (kk _ hl)
    next => cases h
  | if_acmp cnd off =>
    obtain ⟨hd0, hdec0⟩ := Bool.and_eq_true_iff.mp hdec
    obtain ⟨hn0, hxo⟩ := Bool.and_eq_true_iff.mp hdec0
    have hd := of_decide_eq_true hd0
    have hn := of_decide_eq_true hn0
    clear hd0 hn0 hdec0 hdec
    subst hn
    cases cnd with
    | eq =>
      dsimp only at h hxo
      split at h
      next b a t =>
        split at h
        next hc =>
          cases h
          exact lv_acmp_eq (rx := some (ia_ad G a)) (ry := some (ia_ad G b)) hx hb hd (of_decide_eq_true hxo) (fun z => by rw [if_pos (ia_ad_inj hc.1 hc.2 (Option.some.inj z))] at kk; exact kk _ hl) (fun z => by rw [if_neg (fun q => z (by rw [q]))] at kk; exact kk _ hl)
        next => cases h
      next a t =>
          cases h
          exact lv_acmp_eq (rx := some (ia_ad G a)) (ry := none) hx hb hd (of_decide_eq_true hxo) (fun z => by cases z) (fun z => kk _ hl)
      next b t =>
          cases h
          exact lv_acmp_eq (rx := none) (ry := some (ia_ad G b)) hx hb hd (of_decide_eq_true hxo) (fun z => by cases z) (fun z => kk _ hl)
      next t =>
          cases h
          exact lv_acmp_eq (rx := none) (ry := none) hx hb hd (of_decide_eq_true hxo) (fun z => kk _ hl) (fun z => absurd rfl z)
      next => cases h
    | ne =>
      dsimp only at h hxo
      split at h
      next b a t =>
        split at h
        next hc =>
          cases h
          exact lv_acmp_ne (rx := some (ia_ad G a)) (ry := some (ia_ad G b)) hx hb hd (of_decide_eq_true hxo) (fun z => by rw [if_neg (fun q => z (by rw [q]))] at kk; exact kk _ hl) (fun z => by rw [if_pos (ia_ad_inj hc.1 hc.2 (Option.some.inj z))] at kk; exact kk _ hl)
        next => cases h
      next a t =>
          cases h
          exact lv_acmp_ne (rx := some (ia_ad G a)) (ry := none) hx hb hd (of_decide_eq_true hxo) (fun z => kk _ hl) (fun z => by cases z)
      next b t =>
          cases h
          exact lv_acmp_ne (rx := none) (ry := some (ia_ad G b)) hx hb hd (of_decide_eq_true hxo) (fun z => kk _ hl) (fun z => by cases z)
      next t =>
          cases h
          exact lv_acmp_ne (rx := none) (ry := none) hx hb hd (of_decide_eq_true hxo) (fun z => absurd rfl z) (fun z => kk _ hl)
      next => cases h
  | tableswitch d lo hi offs =>
    dsimp only at hdec
    have hd0 : ∃ len, decode cc pc = .ok (.tableswitch d lo hi offs, len) := by
      split at hdec
      next j len hj => exact ⟨len, by rw [hj, of_decide_eq_true hdec]⟩
      next => cases hdec
    obtain ⟨len, hd⟩ := hd0
    dsimp only at h
    split at h
    next x t =>
      split at h
      next ho =>
        split at h
        next hc => cases h; exact lv_tableOut hx hb hd ho (ia_jp_eq hc) (kk _ hl)
        next => cases h
      next ho =>
        split at h
        next off hoff =>
          split at h
          next hc => cases h; exact lv_tableIn hx hb hd (fun z => ho (Or.inl z)) (fun z => ho (Or.inr z)) hoff (ia_jp_eq hc) (kk _ hl)
          next => cases h
        next => cases h
    next => cases h
  | lookupswitch d ps =>
    dsimp only at hdec
    have hd0 : ∃ len, decode cc pc = .ok (.lookupswitch d ps, len) := by
      split at hdec
      next j len hj => exact ⟨len, by rw [hj, of_decide_eq_true hdec]⟩
      next => cases hdec
    obtain ⟨len, hd⟩ := hd0
    dsimp only at h
    split at h
    next x t =>
      split at h
      next hs =>
        split at h
        next hc => cases h; exact lv_lookup hx hb hd hs rfl (ia_jp_eq hc) (kk _ hl)
        next => cases h
      next => cases h
    next => cases h
  | _ => cases h
end IA2
