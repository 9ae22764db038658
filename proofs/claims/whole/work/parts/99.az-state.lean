/-! THE STATE that class and reference both stand for, and what each call answers and leaves. -/
/-- a node: is it there, frame, parent, rank, law, first child, second child, variable, guard, proved, texts -/
abbrev nN : Type := Bool × Int32 × Nat × Nat × Nat × Nat × Nat × Nat × List Int32 × Bool × (Nat → List Int32)
abbrev zE (x : nN) : Bool := x.1
abbrev zF (x : nN) : Int32 := x.2.1
abbrev zP (x : nN) : Nat := x.2.2.1
abbrev zR (x : nN) : Nat := x.2.2.2.1
abbrev zL (x : nN) : Nat := x.2.2.2.2.1
abbrev zK (x : nN) : Nat := x.2.2.2.2.2.1
abbrev zM (x : nN) : Nat := x.2.2.2.2.2.2.1
abbrev zV (x : nN) : Nat := x.2.2.2.2.2.2.2.1
abbrev zG (x : nN) : List Int32 := x.2.2.2.2.2.2.2.2.1
abbrev zO (x : nN) : Bool := x.2.2.2.2.2.2.2.2.2.1
abbrev zT (x : nN) : Nat → List Int32 := x.2.2.2.2.2.2.2.2.2.2
/-- typed, slots, nodes, refinements, refuting, after -/
abbrev aS : Type := List Int32 × (Nat → List Int32) × (Nat → nN) × Nat × (Nat → Int32) × (Nat → Int32)
abbrev aB (A : aS) : List Int32 := A.1
abbrev aQ (A : aS) : Nat → List Int32 := A.2.1
abbrev aN (A : aS) : Nat → nN := A.2.2.1
abbrev aR (A : aS) : Nat := A.2.2.2.1
abbrev aD (A : aS) : Nat → Int32 := A.2.2.2.2.1
abbrev aW (A : aS) : Nat → Int32 := A.2.2.2.2.2
noncomputable def ch {α : Type} (p : Prop) (x y : α) : α := @ite α p (Classical.propDecidable p) x y
theorem ch_pos {α : Type} {p : Prop} {x y : α} (h : p) : ch p x y = x := by unfold ch; exact if_pos h
theorem ch_neg {α : Type} {p : Prop} {x y : α} (h : ¬ p) : ch p x y = y := by unfold ch; exact if_neg h
/-- how many conditions, how many children a law makes -/
def ncw (w : Nat) : Nat := if w = 5 then 2 else if w = 1 ∨ w = 2 ∨ w = 6 ∨ w = 7 then 1 else 0
def nkw (w : Nat) : Nat := if w = 3 ∨ w = 4 then 2 else if 5 ≤ w then 1 else 0
theorem ncw_le (w : Nat) : ncw w ≤ 2 := by unfold ncw; split; omega; split <;> omega
def cL (x : nN) : List (List Int32) := (List.range (ncw (zL x))).map fun i => zT x (2 + i)
theorem cL_len (x : nN) : (cL x).length = ncw (zL x) := by unfold cL; simp
theorem cL_get {x : nN} {i : Nat} {U : List Int32} (h : (cL x)[i]? = some U) : i < ncw (zL x) ∧ U = zT x (2 + i) := by
  unfold cL at h
  rw [List.getElem?_map] at h
  by_cases hi : i < ncw (zL x)
  · rw [List.getElem?_range hi] at h
    cases h
    exact ⟨hi, rfl⟩
  · rw [List.getElem?_eq_none (by simp; omega)] at h
    cases h
theorem cL_at {x : nN} {i : Nat} (h : i < ncw (zL x)) : (cL x)[i]? = some (zT x (2 + i)) := by
  unfold cL
  rw [List.getElem?_map, List.getElem?_range h]; rfl
/-- parents, with 0 above all -/
def pP (N : Nat → nN) (n : Nat) : Nat := if n = 0 then 0 else zP (N n)
theorem pP_0 (N : Nat → nN) : pP N 0 = 0 := rfl
theorem pP_n {N : Nat → nN} {n : Nat} (h : 1 ≤ n) : pP N n = zP (N n) := if_neg (by omega)
/-- the node of this number, 0 where there is none -/
def nod (N : Nat → nN) (x : Int32) : Nat := if 1 ≤ x.toNatClampNeg ∧ x.toNatClampNeg ≤ 16 ∧ zE (N x.toNatClampNeg) = true then x.toNatClampNeg else 0
theorem nod_at {N : Nat → nN} {n : Nat} (h1 : 1 ≤ n) (h2 : n ≤ 16) (h3 : zE (N n) = true) : nod N (nI n) = n := by
  unfold nod
  rw [nI_clamp (by omega), if_pos ⟨h1, h2, h3⟩]
theorem nod_in {N : Nat → nN} {x : Int32} (h : nod N x ≠ 0) : (1 ≤ nod N x ∧ nod N x ≤ 16) ∧ x = nI (nod N x) ∧ zE (N (nod N x)) = true := by
  unfold nod at h ⊢
  by_cases hc : 1 ≤ x.toNatClampNeg ∧ x.toNatClampNeg ≤ 16 ∧ zE (N x.toNatClampNeg) = true
  · rw [if_pos hc] at h ⊢
    refine ⟨⟨hc.1, hc.2.1⟩, ?_, hc.2.2⟩
    have hx : ¬ x < 0 := fun z => by
      have : x.toNatClampNeg = 0 := by
        rw [Int32.lt_iff_toInt_lt] at z
        have z0 : (0 : Int32).toInt = 0 := rfl
        rw [z0] at z
        unfold Int32.toNatClampNeg
        omega
      omega
    obtain ⟨j, hj, e⟩ := nI_of hx
    rw [e, nI_clamp hj]
  · rw [if_neg hc] at h
    exact absurd rfl h
theorem nod_no {N : Nat → nN} {x : Int32} (h : nod N x = 0) : ¬ ∃ n, 1 ≤ n ∧ n ≤ 16 ∧ x = nI n ∧ zE (N n) = true := by
  rintro ⟨n, h1, h2, rfl, h3⟩
  rw [nod_at h1 h2 h3] at h
  omega
/-- what is open at a node, at all of them, and the first such node -/
def ooN (x : nN) : Int32 := if zL x = 0 then 1 else if zO x = true then 0 else nI (ncw (zL x))
def osN (N : Nat → nN) : Nat → Int32
  | 0 => 0
  | i + 1 => osN N i + if zE (N (i + 1)) = true then ooN (N (i + 1)) else 0
def fsN (N : Nat → nN) : Nat → Nat → Int32
  | 0, _ => 0
  | r + 1, i => if zE (N i) = true ∧ 0 < ooN (N i) then nI i else fsN N r (i + 1)
def ndN (x : nN) (y : Int32) : Int32 := if y = 0 then zF x else if y = 1 then nI (zL x) else if y = 2 then nI (zK x) else if y = 3 then nI (zM x) else if y = 4 then nI (ncw (zL x)) else if y = 5 then (if ooN x = 0 then 1 else 0) else -1
/-- in a loop; how many nodes; the least free number -/
def ilN (N : Nat → nN) (n : Nat) : Prop := ∃ k, 1 ≤ an (pP N) k n ∧ zL (N (an (pP N) k n)) = 5
def ctN (N : Nat → nN) : Nat → Nat
  | 0 => 0
  | i + 1 => ctN N i + if zE (N (i + 1)) = true then 1 else 0
def lfN (N : Nat → nN) : Nat → Nat → Nat
  | 0, _ => 0
  | k + 1, i => if zE (N i) = true then lfN N k (i + 1) else i
/-- what the laws ask for -/
def sdN (N : Nat → nN) (f0 f1 e : List Int32) (n w : Nat) (v : Int32) : Prop :=
  (w = 2 → (0 ≤ v ∧ v ≤ 2 ∧ zF (N n) >>> (v &&& 31) &&& 1 = 1) ∧ ¬ 120 ∈ e) ∧ (w = 4 → ¬ 120 ∈ f0) ∧ (w = 5 → ¬ 120 ∈ f1 ∧ ¬ ilN N (pP N n)) ∧ (w = 8 → v &&& (zF (N n) ^^^ -1) = 0)
def rfo (N : Nat → nN) (rr : Nat) (K C : List (List Int32)) : Prop := (K.length + 2 * ctN N 16 ≤ 32 ∧ rr < 48) ∧ (∀ U, U ∈ K → U.length ≤ 120) ∧ ∀ U, U ∈ C → U.length ≤ 120
/-- a node is put there / one is refined -/
def nwN (fr : Int32) (P r : Nat) (p q : List Int32) : nN := (true, fr, P, r, 0, 0, 0, 0, [], false, fun i => if i = 0 then p else q)
def atN (x : nN) (w K1 K2 : Nat) (v : Int32) (g : List Int32) (C : List (List Int32)) : nN := (zE x, zF x, zP x, zR x, w, K1, K2, v.toNatClampNeg, g, false, fun i => if i < 2 then zT x i else C.getD (i - 2) [])
def upN (N : Nat → nN) (n : Nat) (x : nN) : Nat → nN := fun m => if m = n then x else N m
theorem upN_same {N : Nat → nN} {n : Nat} {x : nN} : upN N n x n = x := if_pos rfl
theorem upN_ne {N : Nat → nN} {n m : Nat} {x : nN} (h : m ≠ n) : upN N n x m = N m := if_neg h
/-- the first child's number, the second one's -/
def k1N (N : Nat → nN) (w : Nat) : Nat := if 3 ≤ w then lfN N 16 1 else 0
def k2N (N : Nat → nN) (w : Nat) : Nat := if w = 3 ∨ w = 4 then lfN (upN N (lfN N 16 1) (nwN 0 0 0 [] [])) 16 1 else 0
/-- the nodes behind a refinement -/
def rfN (N : Nat → nN) (n w : Nat) (v : Int32) (K C : List (List Int32)) (g : List Int32) : Nat → nN := fun m =>
  if m = n then atN (N n) w (k1N N w) (k2N N w) v g C
  else if 3 ≤ w ∧ m = k1N N w then nwN (if w = 8 then v else zF (N n)) n (zR (N n) + 1) (K.getD 0 []) (K.getD 1 [])
  else if (w = 3 ∨ w = 4) ∧ m = k2N N w then nwN (if w = 8 then v else zF (N n)) n (zR (N n) + 1) (K.getD 2 []) (K.getD 3 [])
  else N m
/-- the state that refutes: of the first condition that is not valid the least one -/
def prd (C : List (List Int32)) (E : Nat → Int32) : Prop := ∃ (i : Nat) (U : List Int32) (D : Nat → Nat), C[i]? = some U ∧ (∀ j V, j < i → C[j]? = some V → ∀ E, d7 E → vl E V ≠ 0) ∧ rfd U D ∧ E = fun j => if j < 5 then nI (D j) else 0
noncomputable def prE (C : List (List Int32)) : Nat → Int32 := @dite _ (∃ E, prd C E) (Classical.propDecidable _) (fun h => Classical.choose h) (fun _ _ => 0)
theorem num_inj {D E : Nat → Nat} (hD : d7 D) (hE : d7 E) (h : num D = num E) : ∀ j, j < 5 → D j = E j := by
  have a0 := hD 0 (by omega); have a1 := hD 1 (by omega); have a2 := hD 2 (by omega); have a3 := hD 3 (by omega); have a4 := hD 4 (by omega)
  have b0 := hE 0 (by omega); have b1 := hE 1 (by omega); have b2 := hE 2 (by omega); have b3 := hE 3 (by omega); have b4 := hE 4 (by omega)
  unfold num at h
  intro j hj
  rcases (show j = 0 ∨ j = 1 ∨ j = 2 ∨ j = 3 ∨ j = 4 by omega) with rfl | rfl | rfl | rfl | rfl <;> omega
theorem prd_un {C : List (List Int32)} {E E' : Nat → Int32} (h : prd C E) (h' : prd C E') : E = E' := by
  obtain ⟨i, U, D, h1, h2, h3, rfl⟩ := h
  obtain ⟨i', U', D', h1', h2', h3', rfl⟩ := h'
  have hi : i = i' := by
    rcases Nat.lt_trichotomy i i' with z | z | z
    · exact absurd h3.2.1 (h2' i U z h1 D h3.1)
    · exact z
    · exact absurd h3'.2.1 (h2 i' U' z h1' D' h3'.1)
  subst hi
  cases h1.symm.trans h1'
  have hn : num D = num D' := by
    rcases Nat.lt_trichotomy (num D) (num D') with z | z | z
    · exact absurd h3.2.1 (h3'.2.2 D h3.1 z)
    · exact z
    · exact absurd h3'.2.1 (h3.2.2 D' h3'.1 z)
  funext j
  by_cases hj : j < 5
  · rw [if_pos hj, if_pos hj, num_inj h3.1 h3'.1 hn j hj]
  · rw [if_neg hj, if_neg hj]
theorem prE_eq {C : List (List Int32)} {E : Nat → Int32} (h : prd C E) : prE C = E := by
  unfold prE
  rw [dif_pos ⟨E, h⟩]
  exact prd_un (Classical.choose_spec (⟨E, h⟩ : ∃ E, prd C E)) h
/-- all conditions hold in all states -/
def vaL (C : List (List Int32)) : Prop := ∀ U, U ∈ C → ∀ E, d7 E → vl E U ≠ 0
/-- the nodes that go when q is pruned -/
def pwN (N : Nat → nN) (q k : Nat) : Prop := zE (N k) = true ∧ io (pP N) (pP N k) q
noncomputable def pnN (N : Nat → nN) (q : Nat) : Nat → Nat
  | 0 => 0
  | i + 1 => pnN N q i + ch (pwN N q (i + 1)) 1 0
noncomputable def prN (N : Nat → nN) (q : Nat) : Nat → nN := fun m => if m = q then (zE (N q), zF (N q), zP (N q), zR (N q), 0, 0, 0, 0, [], false, zT (N q)) else ch (pwN N q m) (false, (N m).2) (N m)
def bgN (N : Nat → nN) (fr : Int32) (p q : List Int32) : Nat → nN := fun m => if m = 1 then nwN fr 0 0 p q else (false, (N m).2)
def ispN (N : Nat → nN) : Prop := zE (N 1) = true ∧ osN N 16 ≤ 0
def pgN (N : Nat → nN) : List (Nat × Nat × Nat) := pgm (fun n => zL (N n)) (fun n => zK (N n)) (fun n => zM (N n)) (fun n => zV (N n))
/-! what each call answers and leaves -/
noncomputable def sp_type (A : aS) (w : Int64) (n : Int32) : aS × Int32 := ch (∃ N, n = nI N ∧ 1 ≤ N ∧ N ≤ 8 ∧ ∀ i, i < N → ty_ok (ty_c w i)) (if (aB A).length + n.toNatClampNeg ≤ 60 then ((aB A ++ ty_l w n.toNatClampNeg, A.2), nI ((aB A).length + n.toNatClampNeg)) else (A, -3)) (A, -1)
def tx_k (i : Nat) (t : List Int32) : Option Nat := tx_w (if i = 3 then 1 else 0) (if i = 3 then 0 else 1) t
noncomputable def sp_hold (A : aS) (s : Int32) : aS × Int32 := ch (∃ i, i < 4 ∧ s = nI i) (match tx_k s.toNatClampNeg (aB A) with
  | some q => (([], A.2), -100 - nI q)
  | none => (([], (fun j => if j = s.toNatClampNeg then aB A else aQ A j), A.2.2), nI (aB A).length)) (A, -1)
noncomputable def sp_begin (A : aS) (fr : Int32) : aS × Int32 := ch (0 ≤ fr ∧ fr ≤ 7) ((aB A, aQ A, bgN (aN A) fr (aQ A 0) (aQ A 1), A.2.2.2), 1) (A, -1)
/-- children's texts and conditions of a refinement -/
def kA (A : aS) (n w : Nat) : List (List Int32) := rf_k w (zT (aN A n) 0) (zT (aN A n) 1) (aQ A 0) (aQ A 1) (aQ A 3)
def cA (A : aS) (n w : Nat) (v : Int32) : List (List Int32) := rf_c w v (zT (aN A n) 0) (zT (aN A n) 1) (aQ A 0) (aQ A 1) (aQ A 3)
def gA (A : aS) (w : Nat) : List Int32 := rf_g w (aQ A 0) (aQ A 1) (aQ A 3)
noncomputable def sp_refat (A : aS) (n w : Nat) (v : Int32) : aS × Int32 := ch (zL (aN A n) ≠ 0 ∨ ¬ sdN (aN A) (aQ A 0) (aQ A 1) (aQ A 3) n w v) (A, -2) (ch (rfo (aN A) (aR A) (kA A n w) (cA A n w v)) ((aB A, aQ A, rfN (aN A) n w v (kA A n w) (cA A n w v) (gA A w), aR A + 1, A.2.2.2.2), nI (k1N (aN A) w)) (A, -3))
noncomputable def sp_refine (A : aS) (x y v : Int32) : aS × Int32 := ch (nod (aN A) x ≠ 0 ∧ ∃ w, 1 ≤ w ∧ w ≤ 8 ∧ y = nI w) (sp_refat A (nod (aN A) x) y.toNatClampNeg v) (A, -1)
noncomputable def sp_prove (A : aS) (x : Int32) : aS × Int32 := if nod (aN A) x = 0 then (A, -1) else if zL (aN A (nod (aN A) x)) = 0 then (A, -2) else ch (vaL (cL (aN A (nod (aN A) x)))) ((aB A, aQ A, upN (aN A) (nod (aN A) x) (let y := aN A (nod (aN A) x); (zE y, zF y, zP y, zR y, zL y, zK y, zM y, zV y, zG y, true, zT y)), A.2.2.2), 1) ((aB A, aQ A, aN A, aR A, prE (cL (aN A (nod (aN A) x))), aW A), 0)
noncomputable def sp_refuting (A : aS) (x : Int32) : aS × Int32 := (A, ch (∃ j, j < 5 ∧ x = nI j) (aD A x.toNatClampNeg) (-1))
def sp_open (A : aS) : aS × Int32 := (A, osN (aN A) 16)
def sp_first (A : aS) : aS × Int32 := (A, fsN (aN A) 16 1)
noncomputable def sp_prune (A : aS) (x : Int32) : aS × Int32 := if nod (aN A) x = 0 then (A, -1) else if zL (aN A (nod (aN A) x)) = 0 then (A, -2) else ((aB A, aQ A, prN (aN A) (nod (aN A) x), A.2.2.2), nI (pnN (aN A) (nod (aN A) x) 16))
def sp_node (A : aS) (x y : Int32) : aS × Int32 := (A, if nod (aN A) x = 0 then -1 else ndN (aN A (nod (aN A) x)) y)
/-- the character that text answers -/
def tcN (N : Nat → nN) (x y z c : Int32) : Prop := ∃ n w j, (1 ≤ n ∧ n ≤ 16 ∧ x = nI n ∧ zE (N n) = true) ∧ (w < 2 + ncw (zL (N n)) ∧ y = nI w) ∧ (z = nI j ∧ j < 1000) ∧ (zT (N n) w)[j]? = some c
noncomputable def chs (P : Int32 → Prop) : Int32 := @dite _ (∃ c, P c) (Classical.propDecidable _) (fun h => Classical.choose h) (fun _ => -1)
theorem chs_eq {P : Int32 → Prop} {c : Int32} (h : P c) (hu : ∀ c', P c' → c' = c) : chs P = c := by
  unfold chs
  rw [dif_pos ⟨c, h⟩]
  exact hu _ (Classical.choose_spec (⟨c, h⟩ : ∃ c, P c))
theorem chs_no {P : Int32 → Prop} (h : ¬ ∃ c, P c) : chs P = -1 := by
  unfold chs
  rw [dif_neg h]
noncomputable def sp_text (A : aS) (x y z : Int32) : aS × Int32 := (A, chs (tcN (aN A) x y z))
noncomputable def sp_program (A : aS) : aS × Int32 := (A, ch (ispN (aN A)) (nI (pgN (aN A)).length) (-2))
noncomputable def sp_instruction (A : aS) (x y : Int32) : aS × Int32 := (A, ch (ispN (aN A)) (chs (inv (pgN (aN A)) x y)) (-2))
def runN (N : Nat → nN) (a b c : Int32) (f : Nat) : Nat × Nat × (Nat → Int32) := rr (pgN N) (fun n => zG (N n)) f 0 (rn_0 a b c) 0
def rnW (N : Nat → nN) (res : Nat × Nat × (Nat → Int32)) : Nat → Int32 := fun j => if j < 3 then res.2.2 j else if (kn (pgN N) res.2.1).1 = 4 then 1 else 0
noncomputable def sp_run (A : aS) (a b c x : Int32) : aS × Int32 := ch (ispN (aN A)) (ch (∃ N, N ≤ 1000 ∧ x = nI N) ((aB A, aQ A, aN A, aR A, aD A, rnW (aN A) (runN (aN A) a b c x.toNatClampNeg)), nI (runN (aN A) a b c x.toNatClampNeg).1) (A, -1)) (A, -2)
noncomputable def sp_after (A : aS) (x : Int32) : aS × Int32 := (A, ch (∃ j, j < 4 ∧ x = nI j) (aW A x.toNatClampNeg) (-1))
/-! the reference stands for the state -/
def RN (x : nN) (F : Nat → Nat → Int32) (n : Nat) : Prop := (F 2 n = if zE x = true then 1 else 0) ∧ (zE x = true → (F 3 n = zF x ∧ F 4 n = nI (zL x) ∧ F 5 n = nI (zK x) ∧ F 6 n = nI (zM x) ∧ F 7 n = nI (zP x) ∧ F 8 n = nI (ncw (zL x)) ∧ (F 9 n = if zO x = true then 1 else 0) ∧ (zL x = 2 → F 10 n = nI (zV x))) ∧ (∀ w, w < 2 + ncw (zL x) → tm_n F n w (zT x w)) ∧ (zL x = 2 ∨ zL x = 4 ∨ zL x = 5 → tm_g F n (zG x)))
def RI (A : aS) (F : Nat → Nat → Int32) (S : Nat → Int32) : Prop := (tm_t F 10500 (aB A) ∧ S 0 = nI (aB A).length ∧ (aB A).length ≤ 60) ∧ (∀ i, i < 4 → tm_s F i (aQ A i)) ∧ (S 1 = nI (aR A) ∧ aR A ≤ 48 ∧ ∃ o, o < 6 ∧ S 6 = nI o) ∧ (∀ n, 1 ≤ n → n ≤ 16 → RN (aN A n) F n) ∧ (∀ j, j < 5 → F 17 j = aD A j) ∧ ∀ j, j < 4 → F 23 j = aW A j
def RX (A : aS) (h : ia_H) : Prop := ∃ F S, rm h F S ∧ RI A F S
def rx_P (h : ia_H) (p : aS × Int32) (rv : Option Value) (h' : ia_H) : Prop := rv = some (.int p.2) ∧ RX p.1 h' ∧ sx_fr h h' rm_S ∧ h'.2 = h.2
/-! the state itself -/
def AN (N : Nat → nN) (n : Nat) : Prop := zE (N n) = true → (0 ≤ zF (N n) ∧ zF (N n) ≤ 7) ∧ zL (N n) ≤ 8 ∧ ((zP (N n) = 0 ∧ zR (N n) = 0) ∨ ((1 ≤ zP (N n) ∧ zP (N n) ≤ 16 ∧ zE (N (zP (N n))) = true) ∧ zR (N n) = zR (N (zP (N n))) + 1)) ∧ ((3 ≤ zL (N n) → (1 ≤ zK (N n) ∧ zK (N n) ≤ 16 ∧ zE (N (zK (N n))) = true) ∧ zP (N (zK (N n))) = n) ∧ (zL (N n) < 3 → zK (N n) = 0)) ∧ ((zL (N n) = 3 ∨ zL (N n) = 4 → (1 ≤ zM (N n) ∧ zM (N n) ≤ 16 ∧ zE (N (zM (N n))) = true) ∧ zP (N (zM (N n))) = n ∧ zK (N n) ≠ zM (N n)) ∧ (¬ (zL (N n) = 3 ∨ zL (N n) = 4) → zM (N n) = 0)) ∧ (∀ w, w < 2 + ncw (zL (N n)) → tx_F (zT (N n) w) ∧ (zT (N n) w).length ≤ 120) ∧ (zL (N n) = 2 → zV (N n) ≤ 2 ∧ tx_T (zG (N n)) ∧ (¬ 122 ∈ zG (N n)) ∧ (zG (N n)).length ≤ 120) ∧ (zL (N n) = 4 ∨ zL (N n) = 5 → tx_F (zG (N n)) ∧ (zG (N n)).length ≤ 120) ∧ (zO (N n) = true → zL (N n) ≠ 0 ∧ vaL (cL (N n)))
def AI (A : aS) : Prop := ((∀ c, c ∈ aB A → ty_ok c) ∧ (aB A).length ≤ 60) ∧ (∀ i, i < 3 → tx_F (aQ A i)) ∧ tx_T (aQ A 3) ∧ ((¬ 122 ∈ aQ A 3) ∧ (∀ i, i < 4 → (aQ A i).length ≤ 60) ∧ aR A ≤ 48 ∧ (aW A 3 = 0 ∨ aW A 3 = 1)) ∧ ∀ n, 1 ≤ n → n ≤ 16 → AN (aN A) n
