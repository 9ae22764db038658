/-! THE START, 2: the cells that stand there when the law begins, and what the tables say then. -/
def st_len : List Nat := [1, 1, 1, 0, 1, 1, 2, 1, 1, 1, 2]
def st_byt : List (List Int32) := [[48], [84], [62], [], [38], [33], [38, 38], [61], [122], [60], [62, 38]]
def st_nm : List (String × Nat) := [("RefinementBench", 56), ("RefinementBench", 58), ("RefinementBench", 238), ("RefinementBench$Draft", 44), ("RefinementBench", 274), ("RefinementBench", 276), ("RefinementBench", 278), ("RefinementBench", 280), ("RefinementBench", 282), ("RefinementBench", 284), ("RefinementBench", 286)]
def st_tm (i : Nat) : Term := .string (st_nm.getD i ("", 0)).1 (st_nm.getD i ("", 0)).2
theorem st_lb : ∀ k, k < 11 → st_len.getD k 0 = (st_byt.getD k []).length := by decide +kernel
theorem st_by : ∀ k, k < 11 → ∀ c ∈ st_byt.getD k [], 0 ≤ c ∧ c ≤ 127 := by decide +kernel
theorem st_ln : ∀ k, k < 11 → (st_byt.getD k []).length ≤ 480 := by decide +kernel
def st_h (L : Nat) (xs : Nat → Int32) : ia_H := (fun i => if i = 0 then some (.inl (.int, L, fun j => .int (xs j))) else if i < 2 ∨ 24 ≤ i then none else if i % 2 = 0 then some (.inr (10, [.ref (i + 1), .int 0])) else some (.inl (.byte, st_len.getD ((i - 3) / 2) 0, fun j => .int ((st_byt.getD ((i - 3) / 2) []).getD j 0))), 64)
theorem st_hk {L : Nat} {xs : Nat → Int32} {k : Nat} (hk : k < 11) : (st_h L xs).1 (2 + 2 * k) = some (.inr (10, [.ref (2 + 2 * k + 1), .int 0])) := by
  show (if 2 + 2 * k = 0 then _ else if 2 + 2 * k < 2 ∨ 24 ≤ 2 + 2 * k then _ else if (2 + 2 * k) % 2 = 0 then _ else _) = _
  rw [if_neg (by omega), if_neg (by omega), if_pos (by omega)]
theorem st_hv {L : Nat} {xs : Nat → Int32} {k : Nat} (hk : k < 11) : (st_h L xs).1 (2 + 2 * k + 1) = some (.inl (.byte, (st_byt.getD k []).length, fun j => .int ((st_byt.getD k []).getD j 0))) := by
  unfold st_h
  dsimp only
  rw [if_neg (by omega), if_neg (by omega), if_neg (by omega), show (2 + 2 * k + 1 - 3) / 2 = k by omega, st_lb k hk]
theorem st_t {L : Nat} {xs : Nat → Int32} {u v : Nat} (k : Nat) (hk : k < 11) (hu : 64 ≤ u) (hv : 64 ≤ v) : tt (st_h L xs) u v (2 + 2 * k) (st_byt.getD k []) :=
  ⟨2 + 2 * k + 1, [], _, st_hk hk, st_hv hk, fun j c hc => by rw [List.getD_eq_getElem?_getD, hc]; rfl, st_by k hk, st_ln k hk, ⟨by show _ < 64; omega, by show _ < 64; omega⟩, ⟨by omega, by omega, by omega, by omega⟩, Or.inl (by omega), Or.inl (by omega)⟩
theorem st_kst {L : Nat} {xs : Nat → Int32} : kst (st_h L xs) :=
  ⟨List.forall_mem_cons.mpr ⟨fun u v => st_t 2 (by omega), List.forall_mem_cons.mpr ⟨fun u v => st_t 3 (by omega), List.forall_mem_cons.mpr ⟨fun u v => st_t 4 (by omega), List.forall_mem_cons.mpr ⟨fun u v => st_t 5 (by omega), List.forall_mem_cons.mpr ⟨fun u v => st_t 6 (by omega), List.forall_mem_cons.mpr ⟨fun u v => st_t 7 (by omega), List.forall_mem_cons.mpr ⟨fun u v => st_t 8 (by omega), List.forall_mem_cons.mpr ⟨fun u v => st_t 9 (by omega), List.forall_mem_cons.mpr ⟨fun u v => st_t 10 (by omega), fun _ h => absurd h List.not_mem_nil⟩⟩⟩⟩⟩⟩⟩⟩⟩, fun u v => st_t 0 (by omega), fun u v => st_t 1 (by omega)⟩
def st_G (l : Launch) (D : va_G) (dA : FieldType → ClassId) (z b f : Nat) (aK aV : Nat → Nat) : ia_G := (l, D, dA, z, fun i => if i = 0 then b else if i = 63 then f else if i % 2 = 0 then aK ((i - 2) / 2) else aV ((i - 3) / 2))
section ST
variable {l : Launch} {D : va_G} {dA : FieldType → ClassId} {z b f : Nat} {aK aV : Nat → Nat}
theorem st_ak {k : Nat} (hk : k < 11) : ia_ad (st_G l D dA z b f aK aV) (2 + 2 * k) = aK k := by
  show (if 2 + 2 * k < 64 then (if 2 + 2 * k = 0 then b else if 2 + 2 * k = 63 then f else if (2 + 2 * k) % 2 = 0 then aK ((2 + 2 * k - 2) / 2) else aV ((2 + 2 * k - 3) / 2)) else _) = _
  rw [if_pos (by omega), if_neg (by omega), if_neg (by omega), if_pos (by omega), show (2 + 2 * k - 2) / 2 = k by omega]
theorem st_av {k : Nat} (hk : k < 11) : ia_ad (st_G l D dA z b f aK aV) (2 + 2 * k + 1) = aV k := by
  show (if 2 + 2 * k + 1 < 64 then (if 2 + 2 * k + 1 = 0 then b else if 2 + 2 * k + 1 = 63 then f else if (2 + 2 * k + 1) % 2 = 0 then aK ((2 + 2 * k + 1 - 2) / 2) else aV ((2 + 2 * k + 1 - 3) / 2)) else _) = _
  rw [if_pos (by omega), if_neg (by omega), if_neg (by omega), if_neg (by omega), show (2 + 2 * k + 1 - 3) / 2 = k by omega]
theorem st_L {s : State} {L : Nat} {xs : Nat → Int32} (hX : va_X b L xs s s.heap) (hbl : b < s.heap.size) (hS : vk_S 11 st_len st_byt aK aV (fun q => s.heap.size ≤ q) s s.heap) : ia_L pg (st_G l D dA s.heap.size b f aK aV) s (st_h L xs) s.heap := by
  have hno : ∀ i, 24 ≤ i → (st_h L xs).1 i = none := fun i hi => by
    show (if i = 0 then _ else if i < 2 ∨ 24 ≤ i then _ else _) = _
    rw [if_neg (by omega), if_pos (by omega)]
  refine ⟨fun i x hx => ?_, Nat.le_refl _, rfl, fun i hi => hno i (by have h64 : 64 ≤ i := hi; omega)⟩
  by_cases h24 : 24 ≤ i
  · rw [hno i h24] at hx; cases hx
  unfold ia_at
  rw [if_pos (by omega)]
  by_cases i0 : i = 0
  · subst i0
    have hx' : x = .inl (.int, L, fun j => .int (xs j)) := (Option.some.inj hx).symm
    subst hx'
    obtain ⟨scr, h1, h2, h3, h4, h5⟩ := hX
    exact ⟨scr, h1, h2, h3, by omega, by rw [h4] <;> rfl, h5, fun h => absurd h (Nat.not_le.mpr hbl)⟩
  by_cases i1 : i = 1
  · subst i1; cases hx
  obtain ⟨k, hk, e⟩ : ∃ k, k < 11 ∧ (i = 2 + 2 * k ∨ i = 2 + 2 * k + 1) := ⟨(i - 2) / 2, by omega, by omega⟩
  have hs := hS.1 k hk
  rcases e with rfl | rfl
  · rw [st_hk hk] at hx
    have hx' := (Option.some.inj hx).symm
    subst hx'
    refine ⟨("java/lang/String", pg_Tst, 4), rfl, ?_, fun j v hv => ?_⟩
    · rw [st_ak hk]; exact hs.1
    · rw [st_ak hk]
      match j, hv with
      | 0, hv =>
        cases hv
        show va_OF _ _ _ (.ref (ia_ad _ (2 + 2 * k + 1))) _ _ _ _
        rw [st_av hk]; exact hs.2.2.1
      | 1, hv => cases hv; exact hs.2.1
      | j + 2, hv => cases hv
  · rw [st_hv hk] at hx
    have hx' := (Option.some.inj hx).symm
    subst hx'
    show va_T .byte (ia_ad _ (2 + 2 * k + 1)) _ _ _ _ _
    rw [st_av hk, ← st_lb k hk]
    exact hs.2.2.2
/-- the tables -/
theorem st_nok {w : Cond} (h : ia_nok w = true) : w.onTables = true := by
  unfold ia_nok at h
  split at h
  next => rfl
  next => rfl
  next => rfl
  next => cases h
theorem st_D {s : State} {args : Array Value} (hts : ∀ w ∈ tables_1, w.before args s = true) : ∃ D : va_G, ∀ (c : Nat) (q : vw_C), pg_cl[c]? = some q → u_Kn s q.1 q.2.1 q.2.2 (D.1 c) (D.2 c) := by
  have h0 : ∀ c : Nat, ∃ x : ClassId × (Nat → Nat), ∀ q : vw_C, pg_cl[c]? = some q → u_Kn s q.1 q.2.1 q.2.2 x.1 x.2 := by
    intro c
    cases hc : pg_cl[c]? with
    | none => exact ⟨Classical.choice ⟨(s.vm.classes.size, fun _ => 0)⟩, fun q h => by cases h⟩
    | some r =>
      obtain ⟨h1, h2⟩ := wc_all r (List.mem_of_getElem? hc)
      obtain ⟨cC, iS, h3⟩ := u_known (ws := tables_1) hts h1 (hts _ h2)
      exact ⟨(cC, iS), fun q h => by cases h; exact h3⟩
  obtain ⟨D, hD⟩ := Classical.axiomOfChoice h0
  exact ⟨(fun c => (D c).1, fun c => (D c).2), hD⟩
theorem st_prim {s : State} {args : Array Value} {t : FieldType} (h : (Cond.arrayClass t).before args s = true) (ht : ∀ cA, s.vm.findClass ("[" ++ t.toString) = some cA → va_RA s cA t) : ∃ cA, ArrOfT s cA t ∧ va_RA s cA t := by
  obtain ⟨c, k, comp, h1, h2, h3⟩ := Cond.arrayClass_spec (args := args) (first := s) (o := none) (s := s) (idx := []) h
  exact ⟨c, fun n z => ⟨(fun k h => by cases h), k, h2, comp, h3⟩, ht c h1⟩
theorem st_obj {s : State} {args : Array Value} {C : String} (h : (Cond.arrayOver (.object C)).before args s = true) : ∃ cA, ArrOfT s cA (.object C) ∧ va_RA s cA (.object C) := by
  obtain ⟨comp, c, k, h1, -, h2, h3, h4⟩ := Cond.arrayOver_spec (args := args) (first := s) (o := none) (s := s) (idx := []) h
  exact ⟨c, fun n z => ⟨(fun k h => by cases h), k, h2, comp, h3⟩, k, comp, h2, h3, h1, h4⟩
set_option maxRecDepth 100000 in
theorem st_A {s : State} {args : Array Value} (hts : ∀ w ∈ tables_1, w.before args s = true) : ∃ dA : FieldType → ClassId, ∀ t ∈ pg_ty, ArrOfT s (dA t) t ∧ va_RA s (dA t) t := by
  have h0 : ∀ t ∈ pg_ty, ∃ cA, ArrOfT s cA t ∧ va_RA s cA t := List.forall_mem_cons.mpr ⟨st_prim (hts _ (List.mem_of_getElem? (i := 150) rfl)) (fun _ h => h), List.forall_mem_cons.mpr ⟨st_prim (hts _ (List.mem_of_getElem? (i := 103) rfl)) (fun _ h => h), List.forall_mem_cons.mpr ⟨st_prim (hts _ (List.mem_of_getElem? (i := 63) rfl)) (fun _ h => h), List.forall_mem_cons.mpr ⟨st_prim (hts _ (List.mem_of_getElem? (i := 921) rfl)) (fun _ h => h), List.forall_mem_cons.mpr ⟨st_obj (hts _ (List.mem_of_getElem? (i := 65) rfl)), List.forall_mem_cons.mpr ⟨st_obj (hts _ (List.mem_of_getElem? (i := 67) rfl)), List.forall_mem_cons.mpr ⟨st_obj (hts _ (List.mem_of_getElem? (i := 111) rfl)), fun _ h => absurd h List.not_mem_nil⟩⟩⟩⟩⟩⟩⟩
  have h1 : ∀ t : FieldType, ∃ cA : ClassId, t ∈ pg_ty → ArrOfT s cA t ∧ va_RA s cA t := fun t => by
    by_cases h : t ∈ pg_ty
    · obtain ⟨c, hc⟩ := h0 t h
      exact ⟨c, fun _ => hc⟩
    · exact ⟨s.vm.classes.size, fun z => absurd z h⟩
  obtain ⟨dA, h⟩ := Classical.axiomOfChoice h1
  exact ⟨dA, h⟩
theorem st_mem {args : Array Value} {s : State} (hg : (Jvm.Cond.and given_1 narrow_1).before args s = true) : ∃ aK aV : Nat → Nat, vk_S 11 st_len st_byt aK aV (fun q => s.heap.size ≤ q) s s.heap ∧ ∀ i : Nat, i < 11 → (st_tm i).eval args s none [] s = some (.ref (aK i)) := by
  have hs := flat_of_before _ hg
  refine vk_Sof (by decide +kernel) (fun i hi => hs _ ((show ∀ i, i < 11 → Cond.exactly (st_tm i) "java/lang/String" ∈ flatC (Jvm.Cond.and given_1 narrow_1) from by decide +kernel) i hi)) (fun i hi => hs _ ((show ∀ i, i < 11 → Cond.eq (.field (st_tm i) "java/lang/String" "coder" "B") (.int 0) ∈ flatC (Jvm.Cond.and given_1 narrow_1) from by decide +kernel) i hi)) (fun i hi => hs _ ((show ∀ i, i < 11 → Cond.arrayOf (.field (st_tm i) "java/lang/String" "value" "[B") .byte ∈ flatC (Jvm.Cond.and given_1 narrow_1) from by decide +kernel) i hi)) (fun i hi => hs _ ((show ∀ i, i < 11 → Cond.eq (.length (.field (st_tm i) "java/lang/String" "value" "[B")) (.int (Int32.ofNat (st_len.getD i 0))) ∈ flatC (Jvm.Cond.and given_1 narrow_1) from by decide +kernel) i hi)) (fun i hi j hj => hs _ ((show ∀ i, i < 11 → ∀ j, j < st_len.getD i 0 → Cond.eq (.elem (.field (st_tm i) "java/lang/String" "value" "[B") (.int (Int32.ofNat j))) (.int ((st_byt.getD i []).getD j 0)) ∈ flatC (Jvm.Cond.and given_1 narrow_1) from by decide +kernel) i hi j hj)) (fun i j hi hj hij => ?_) (fun a ha h => absurd h (Nat.not_le.mpr ha))
  rcases (show ∀ i, i < 11 → ∀ j, j < 11 → i ≠ j → Cond.not (Cond.eq (st_tm i) (st_tm j)) ∈ flatC (Jvm.Cond.and given_1 narrow_1) ∨ Cond.not (Cond.eq (st_tm j) (st_tm i)) ∈ flatC (Jvm.Cond.and given_1 narrow_1) from by decide +kernel) i hi j hj hij with h | h
  · exact Or.inl (hs _ h)
  · exact Or.inr (hs _ h)
set_option maxRecDepth 100000 in
theorem st_C {args : Array Value} {s : State} (hts : ∀ w ∈ lw_tbl, w.before args s = true) (hD : ∀ (c : Nat) (q : vw_C), pg_cl[c]? = some q → u_Kn s q.1 q.2.1 q.2.2 (D.1 c) (D.2 c)) (hA : ∀ t ∈ pg_ty, ArrOfT s (dA t) t ∧ va_RA s (dA t) t) (hK : ∀ i : Nat, i < 11 → (st_tm i).eval args s none [] s = some (.ref (aK i))) (hc : (Cond.eq (.static "java/lang/String" "COMPACT_STRINGS" "Z") (.int 1)).before args s = true) (hf : va_Z "jdk/internal/util/Preconditions" "SIOOBE_FORMATTER" "Ljava/util/function/BiFunction;" (match f with | 0 => .null | t + 1 => .ref t) (fun q => s.heap.size ≤ q) s s.heap) : ia_C pg (st_G l D dA s.heap.size b f aK aV) s := by
  have ht : ∀ w ∈ tables_1, w.before args s = true := fun w h => hts w (List.mem_append_right _ h)
  have hx : ∀ w, w ∈ pg_xs ∨ w ∈ tables_1 → w.before args s = true := fun w h => by
    rcases h with h | h
    · rcases pg_xs_in w h with h | h
      · exact hts w (List.mem_append_left _ h)
      · exact st_four_ok ht w h
    · exact ht w h
  have wt : ∀ w, ia_wok w = true → w.before args s = true → w.before #[] s = true := fun w h1 h2 => word_at (State.WarmedH.refl s) (ia_wok_use h1) h2
  refine ⟨fun M hM => ⟨fun h99 => wt _ (ia_mc_ok M) (ht _ ((wd_all M hM).1 h99)), fun w hw => wt w ((pg_ok.1.1.1 M hM).1 w hw) (hx w ((wd_all M hM).2.1 w hw)), fun w hw => va_Nw.of (st_nok ((pg_ok.1.1.1 M hM).2 w hw)) (ht w ((wd_all M hM).2.2 w hw))⟩, ⟨hD, fun k q hq => ?_⟩, fun r hr w hw => wt w (pg_ok.1.1.2 r hr w hw) (ht w ((wc_all r hr).1 w hw)), ?_, ?_, ?_, Nat.le_refl _⟩
  · have hq' : (pg_ty.map fun t => (dA t, t))[k]? = some q := hq
    rw [List.getElem?_map] at hq'
    cases hty : pg_ty[k]? with
    | none => rw [hty] at hq'; cases hq'
    | some t =>
      rw [hty] at hq'
      cases hq'
      exact hA t (List.mem_of_getElem? hty)
  · exact List.forall_mem_cons.mpr ⟨va_AO.of (ht _ (List.mem_of_getElem? (i := 65) rfl)), List.forall_mem_cons.mpr ⟨va_AO.of (ht _ (List.mem_of_getElem? (i := 67) rfl)), List.forall_mem_cons.mpr ⟨va_AO.of (ht _ (List.mem_of_getElem? (i := 111) rfl)), fun _ h => absurd h List.not_mem_nil⟩⟩⟩
  · exact List.forall_mem_cons.mpr ⟨vk_R.of (ht _ (List.mem_of_getElem? (i := 139) rfl)) (hK 0 (by omega)), List.forall_mem_cons.mpr ⟨vk_R.of (ht _ (List.mem_of_getElem? (i := 140) rfl)) (hK 1 (by omega)), List.forall_mem_cons.mpr ⟨vk_R.of (ht _ (List.mem_of_getElem? (i := 573) rfl)) (hK 2 (by omega)), List.forall_mem_cons.mpr ⟨vk_R.of (ht _ (List.mem_of_getElem? (i := 614) rfl)) (hK 3 (by omega)), List.forall_mem_cons.mpr ⟨vk_R.of (ht _ (List.mem_of_getElem? (i := 631) rfl)) (hK 4 (by omega)), List.forall_mem_cons.mpr ⟨vk_R.of (ht _ (List.mem_of_getElem? (i := 632) rfl)) (hK 5 (by omega)), List.forall_mem_cons.mpr ⟨vk_R.of (ht _ (List.mem_of_getElem? (i := 637) rfl)) (hK 6 (by omega)), List.forall_mem_cons.mpr ⟨vk_R.of (ht _ (List.mem_of_getElem? (i := 638) rfl)) (hK 7 (by omega)), List.forall_mem_cons.mpr ⟨vk_R.of (ht _ (List.mem_of_getElem? (i := 639) rfl)) (hK 8 (by omega)), List.forall_mem_cons.mpr ⟨vk_R.of (ht _ (List.mem_of_getElem? (i := 640) rfl)) (hK 9 (by omega)), List.forall_mem_cons.mpr ⟨vk_R.of (ht _ (List.mem_of_getElem? (i := 641) rfl)) (hK 10 (by omega)), fun _ h => absurd h List.not_mem_nil⟩⟩⟩⟩⟩⟩⟩⟩⟩⟩⟩
  · exact List.forall_mem_cons.mpr ⟨va_Zof (ht _ (List.mem_of_getElem? (i := 41) rfl)) (ht _ (List.mem_of_getElem? (i := 4) rfl)) (va_eqi hc) (fun a ha h => absurd h (Nat.not_le.mpr ha)), List.forall_mem_cons.mpr ⟨hf, fun _ h => absurd h List.not_mem_nil⟩⟩
theorem st_F {args : Array Value} {s : State} (hts : ∀ w ∈ tables_1, w.before args s = true) (h : (Cond.isRef (.static "jdk/internal/util/Preconditions" "SIOOBE_FORMATTER" "Ljava/util/function/BiFunction;")).before args s = true) (hl : (Cond.laysStatic "jdk/internal/util/Preconditions" "SIOOBE_FORMATTER" "Ljava/util/function/BiFunction;") ∈ tables_1) (hi : (Cond.initialized "jdk/internal/util/Preconditions") ∈ tables_1) : ∃ f : Nat, va_Z "jdk/internal/util/Preconditions" "SIOOBE_FORMATTER" "Ljava/util/function/BiFunction;" (match f with | 0 => .null | t + 1 => .ref t) (fun q => s.heap.size ≤ q) s s.heap := by
  rcases va_Zqof (A := fun q => s.heap.size ≤ q) (hts _ hl) (hts _ hi) h (fun a ha h => absurd h (Nat.not_le.mpr ha)) with h | ⟨t, h⟩
  · exact ⟨0, h⟩
  · exact ⟨t + 1, h⟩
end ST
