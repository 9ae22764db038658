/-! THE CLASS STANDS FOR THE STATE: its cells. -/
/-- the String a; u and v are the arrays that the two builders use now -/
def tt (h : ia_H) (u v a : Nat) (t : List Int32) : Prop := ∃ (w : Nat) (r : List Value) (f : Nat → Value), h.1 a = some (.inr (10, .ref w :: .int 0 :: r)) ∧ h.1 w = some (.inl (.byte, t.length, f)) ∧ (∀ j c, t[j]? = some c → f j = .int c) ∧ (∀ c ∈ t, 0 ≤ c ∧ c ≤ 127) ∧ t.length ≤ 480 ∧ (a < h.2 ∧ w < h.2) ∧ (a ≠ u ∧ a ≠ v ∧ w ≠ u ∧ w ≠ v) ∧ ((a < 64 ∨ 142 ≤ a) ∧ (w < 64 ∨ 142 ≤ w))
theorem tt.s {h : ia_H} {u v a : Nat} {t : List Int32} (x : tt h u v a t) : sx_t h a t := by
  obtain ⟨w, r, f, h1, h2, h3, h4, h5, h6, -⟩ := x
  exact ⟨w, r, f, h1, h2, h3, h4, h5, h6⟩
/-- what may be written -/
def mw (h : ia_H) (u v q : Nat) : Prop := q = u ∨ q = v ∨ ((∀ r, h.1 q ≠ some (.inr (10, r))) ∧ ∀ n f, h.1 q ≠ some (.inl (.byte, n, f)))
def ks (h h' : ia_H) (u v u' v' : Nat) : Prop := ∀ a t, tt h u v a t → tt h' u' v' a t
theorem ks_fr {h h' : ia_H} {u v u' v' : Nat} {S : Nat → Prop} (hf : sx_fr h h' S) (hS : ∀ q, S q → mw h u v q) (hu : u' = u ∨ h.2 ≤ u') (hv : v' = v ∨ h.2 ≤ v') : ks h h' u v u' v' := by
  rintro a t ⟨w, r, f, h1, h2, h3, h4, h5, ⟨h6, h6'⟩, ⟨h7, h8, h9, h10⟩, h11⟩
  have ea : h'.1 a = h.1 a := hf.2 a h6 (fun z => by
    rcases hS a z with z | z | z
    · exact h7 z
    · exact h8 z
    · exact z.1 _ h1)
  have ew : h'.1 w = h.1 w := hf.2 w h6' (fun z => by
    rcases hS w z with z | z | z
    · exact h9 z
    · exact h10 z
    · exact z.2 _ _ h2)
  exact ⟨w, r, f, ea.trans h1, ew.trans h2, h3, h4, h5, ⟨Nat.lt_of_lt_of_le h6 hf.1, Nat.lt_of_lt_of_le h6' hf.1⟩, ⟨by omega, by omega, by omega, by omega⟩, h11⟩
theorem ks.tr {h1 h2 h3 : ia_H} {u1 v1 u2 v2 u3 v3 : Nat} (a : ks h1 h2 u1 v1 u2 v2) (b : ks h2 h3 u2 v2 u3 v3) : ks h1 h3 u1 v1 u3 v3 := fun x t z => b x t (a x t z)
theorem sx_b.keep {h h' : ia_H} {b v cap : Nat} {t : List Int32} (x : sx_b h b v cap t) (hb : h'.1 b = h.1 b) (hv : h'.1 v = h.1 v) (h2 : h.2 ≤ h'.2) : sx_b h' b v cap t := by
  obtain ⟨m, f, h1, h3, h4, h5, h6, h7, h8, h9, h10, h11, h12, h13⟩ := x
  exact ⟨m, f, hb.trans h1, hv.trans h3, h4, h5, h6, h7, h8, h9, h10, by omega, by omega, h13⟩
theorem sx_b.lt {h : ia_H} {b v cap : Nat} {t : List Int32} (x : sx_b h b v cap t) : b < h.2 ∧ v < h.2 ∧ (∃ n f, h.1 v = some (.inl (.byte, n, f))) ∧ ∃ fs, h.1 b = some (.inr (9, fs)) := by
  obtain ⟨m, f, h1, h3, h4, h5, h6, h7, h8, h9, h10, h11, h12, h13⟩ := x
  exact ⟨h11, h12, ⟨_, _, h3⟩, ⟨_, h1⟩⟩
def cx_0 (h : ia_H) (c : Int32) (rr : Nat) : Prop := h.1 64 = some (.inr (0, [.ref 65, .ref 67, .ref 68, .ref 69, .ref 72, .ref 76, .ref 111, .ref 112, .int c, .int (nI rr)]))
def cx_sl (h : ia_H) (u v : Nat) (Q : Nat → List Int32) : Prop := (∃ f, h.1 67 = some (.inl (.object "RefinementBench$Slot", 4, f)) ∧ ∀ i, i < 4 → f i = .ref (113 + i)) ∧ ∀ i, i < 4 → ∃ a, h.1 (113 + i) = some (.inr (6, [.ref a])) ∧ tt h u v a (Q i)
def cx_nd (h : ia_H) (N : Nat → nN) (na : Nat → Nat) : Prop := ∃ f, h.1 68 = some (.inl (.object "RefinementBench$Node", 17, f)) ∧ ∀ n, 1 ≤ n → n ≤ 16 → f n = if zE (N n) = true then .ref (na n) else .null
def cx_dr (h : ia_H) (v c2 : Nat) : Prop := (∃ t : Int32, (t = 0 ∨ t = 1) ∧ h.1 69 = some (.inr (2, [.ref 70, .int t]))) ∧ sx_b h 70 v c2 []
def cx_jg (h : ia_H) : Prop := ∃ F1 F2 F3 n, jg h F1 F2 F3 n
def cx_cd (h : ia_H) : Prop := (∃ s : Int32, h.1 76 = some (.inr (1, [.ref 77, .int s]))) ∧ (∃ f, h.1 77 = some (.inl (.object "RefinementBench$Instruction", 33, f)) ∧ ∀ i, i < 33 → f i = .ref (78 + i)) ∧ ∀ i, i < 33 → ∃ (k g : Int32) (p : Value), h.1 (78 + i) = some (.inr (3, [.int k, .int g, p]))
def cx_ar (h : ia_H) (D W : Nat → Int32) : Prop := (∃ f, h.1 111 = some (.inl (.int, 5, f)) ∧ ∀ j, j < 5 → f j = .int (D j)) ∧ ∃ f, h.1 112 = some (.inl (.int, 3, f)) ∧ ∀ j, j < 3 → f j = .int (W j)
def cst : List (Nat × List Int32) := [(6, [62]), (8, []), (10, [38]), (12, [33]), (14, [38, 38]), (16, [61]), (18, [122]), (20, [60]), (22, [62, 38])]
def cx_k (h : ia_H) (u v : Nat) : Prop := ∀ q, q ∈ cst → tt h u v q.1 q.2
def rn (na : Nat → Nat) (k : Nat) : Value := if k = 0 then .null else .ref (na k)
def cnd (h : ia_H) (u v : Nat) (P : Prop) (c : Value) (t : List Int32) : Prop := (P → ∃ a, c = .ref a ∧ tt h u v a t) ∧ (¬ P → c = .null)
def cx_st (h : ia_H) (u v : Nat) (na : Nat → Nat) (x : nN) (s : Nat) : Prop := ∃ (c1 c2 : Value) (vv : Int32) (pt : Value), h.1 s = some (.inr (7, [.int (nI (zL x)), rn na (zK x), rn na (zM x), c1, c2, .int (if zO x = true then 1 else 0), .int vv, pt])) ∧ cnd h u v (1 ≤ ncw (zL x)) c1 (zT x 2) ∧ cnd h u v (2 ≤ ncw (zL x)) c2 (zT x 3) ∧ (zL x = 2 → vv = nI (zV x)) ∧ (zL x = 2 ∨ zL x = 4 ∨ zL x = 5 → ∃ a, pt = .ref a ∧ tt h u v a (zG x)) ∧ 142 ≤ s ∧ s < h.2
def cx_n (h : ia_H) (u v : Nat) (na sa : Nat → Nat) (x : nN) (n : Nat) : Prop := ∃ (a0 a1 : Nat) (st : Value), h.1 (na n) = some (.inr (5, [rn na (zP x), .int (zF x), .ref a0, .ref a1, .int (nI n), st])) ∧ tt h u v a0 (zT x 0) ∧ tt h u v a1 (zT x 1) ∧ (142 ≤ na n ∧ na n < h.2) ∧ (zL x = 0 → st = .null) ∧ (zL x ≠ 0 → st = .ref (sa n) ∧ cx_st h u v na x (sa n))
def CF (A : aS) (h : ia_H) (u c1 v c2 : Nat) (na : Nat → Nat) : Prop := cx_0 h (aW A 3) (aR A) ∧ sx_b h 65 u c1 (aB A) ∧ cx_sl h u v (aQ A) ∧ cx_nd h (aN A) na ∧ cx_dr h v c2 ∧ cx_jg h ∧ cx_cd h ∧ cx_ar h (aD A) (aW A) ∧ cx_k h u v
def CV (h : ia_H) (u v : Nat) : Prop := (u = 66 ∨ 142 ≤ u) ∧ (v = 71 ∨ 142 ≤ v) ∧ u ≠ v ∧ 142 ≤ h.2
def CN (N : Nat → nN) (h : ia_H) (u v : Nat) (na sa : Nat → Nat) : Prop := (∀ n, 1 ≤ n → n ≤ 16 → zE (N n) = true → cx_n h u v na sa (N n) n) ∧ ∀ n m, 1 ≤ n → n ≤ 16 → 1 ≤ m → m ≤ 16 → zE (N n) = true → zE (N m) = true → zL (N n) ≠ 0 → zL (N m) ≠ 0 → sa n = sa m → n = m
def CY (A : aS) (h : ia_H) (u c1 v c2 : Nat) (na sa : Nat → Nat) : Prop := CF A h u c1 v c2 na ∧ CV h u v ∧ CN (aN A) h u v na sa
def CX (A : aS) (h : ia_H) : Prop := ∃ u c1 v c2 na sa, CY A h u c1 v c2 na sa
def cx_S (q : Nat) : Prop := 64 ≤ q ∧ ¬ rm_S q
def cx_P (h : ia_H) (k : Nat) (p : aS × Int32) (rv : Option Value) (h' : ia_H) : Prop := rv = some (.int p.2) ∧ CX p.1 h' ∧ sx_fr h h' cx_S ∧ k ≤ k
section CK
variable {h h' : ia_H} {u v u' v' : Nat} {na sa : Nat → Nat}
theorem cnd.keep {P : Prop} {c : Value} {t : List Int32} (x : cnd h u v P c t) (k : ks h h' u v u' v') : cnd h' u' v' P c t := ⟨fun p => by obtain ⟨a, e, y⟩ := x.1 p; exact ⟨a, e, k a t y⟩, x.2⟩
theorem cx_st.keep {x : nN} {s : Nat} (y : cx_st h u v na x s) (k : ks h h' u v u' v') (hs : h'.1 s = h.1 s) (h2 : h.2 ≤ h'.2) : cx_st h' u' v' na x s := by
  obtain ⟨c1, c2, vv, pt, e, y1, y2, y3, y4, y5, y6⟩ := y
  exact ⟨c1, c2, vv, pt, hs.trans e, y1.keep k, y2.keep k, y3, fun z => by obtain ⟨a, e, q⟩ := y4 z; exact ⟨a, e, k a _ q⟩, y5, by omega⟩
theorem cx_n.keep {x : nN} {n : Nat} (y : cx_n h u v na sa x n) (k : ks h h' u v u' v') (hn : h'.1 (na n) = h.1 (na n)) (hs : zL x ≠ 0 → h'.1 (sa n) = h.1 (sa n)) (h2 : h.2 ≤ h'.2) : cx_n h' u' v' na sa x n := by
  obtain ⟨a0, a1, st, e, t0, t1, b, y1, y2⟩ := y
  exact ⟨a0, a1, st, hn.trans e, k _ _ t0, k _ _ t1, ⟨b.1, by omega⟩, y1, fun z => ⟨(y2 z).1, (y2 z).2.keep k (hs z) h2⟩⟩
theorem cx_sl.keep {Q : Nat → List Int32} (y : cx_sl h u v Q) (k : ks h h' u v u' v') (h67 : h'.1 67 = h.1 67) (hs : ∀ i, i < 4 → h'.1 (113 + i) = h.1 (113 + i)) : cx_sl h' u' v' Q := by
  obtain ⟨⟨f, e, g⟩, y⟩ := y
  exact ⟨⟨f, h67.trans e, g⟩, fun i hi => by obtain ⟨a, e, q⟩ := y i hi; exact ⟨a, (hs i hi).trans e, k _ _ q⟩⟩
theorem cx_k.keep (y : cx_k h u v) (k : ks h h' u v u' v') : cx_k h' u' v' := fun q hq => k _ _ (y q hq)
theorem cx_cd.keep (y : cx_cd h) (hk : ∀ q, 76 ≤ q → q ≤ 110 → h'.1 q = h.1 q) : cx_cd h' := by
  obtain ⟨⟨s, e⟩, ⟨f, e2, g⟩, y⟩ := y
  exact ⟨⟨s, (hk 76 (by omega) (by omega)).trans e⟩, ⟨f, (hk 77 (by omega) (by omega)).trans e2, g⟩, fun i hi => by obtain ⟨k, g, p, e⟩ := y i hi; exact ⟨k, g, p, (hk _ (by omega) (by omega)).trans e⟩⟩
theorem cx_jg.keep (y : cx_jg h) (hk : ∀ q, 72 ≤ q → q ≤ 75 → h'.1 q = h.1 q) : cx_jg h' := by
  obtain ⟨F1, F2, F3, n, e1, e2, e3, e4, e5⟩ := y
  exact ⟨F1, F2, F3, n, (hk _ (by omega) (by omega)).trans e1, (hk _ (by omega) (by omega)).trans e2, (hk _ (by omega) (by omega)).trans e3, (hk _ (by omega) (by omega)).trans e4, e5⟩
theorem cx_ar.keep {D W : Nat → Int32} (y : cx_ar h D W) (h1 : h'.1 111 = h.1 111) (h2 : h'.1 112 = h.1 112) : cx_ar h' D W := by
  obtain ⟨⟨f, e, g⟩, f', e', g'⟩ := y
  exact ⟨⟨f, h1.trans e, g⟩, f', h2.trans e', g'⟩
theorem cx_dr.keep {c2 : Nat} (y : cx_dr h v c2) (h69 : h'.1 69 = h.1 69) (h70 : h'.1 70 = h.1 70) (hv : h'.1 v = h.1 v) (h2 : h.2 ≤ h'.2) : cx_dr h' v c2 := by
  obtain ⟨⟨t, t1, e⟩, b⟩ := y
  exact ⟨⟨t, t1, h69.trans e⟩, b.keep h70 hv h2⟩
theorem cx_nd.keep {N : Nat → nN} (y : cx_nd h N na) (h68 : h'.1 68 = h.1 68) : cx_nd h' N na := by
  obtain ⟨f, e, g⟩ := y
  exact ⟨f, h68.trans e, g⟩
theorem CN.keep {N : Nat → nN} (y : CN N h u v na sa) (k : ks h h' u v u' v') (hk : ∀ q, 142 ≤ q → q < h.2 → (∃ r, h.1 q = some (.inr (5, r))) ∨ (∃ r, h.1 q = some (.inr (7, r))) → h'.1 q = h.1 q) (h2 : h.2 ≤ h'.2) : CN N h' u' v' na sa := by
  refine ⟨fun n n1 n2 n3 => ?_, y.2⟩
  have z := y.1 n n1 n2 n3
  have z' := z
  obtain ⟨a0, a1, st, e, -, -, b, -, y2⟩ := z'
  refine z.keep k (hk _ b.1 b.2 (Or.inl ⟨_, e⟩)) (fun l => ?_) h2
  obtain ⟨-, c1, c2, vv, pt, e, -, -, -, -, y5, y6⟩ := y2 l
  exact hk _ y5 y6 (Or.inr ⟨_, e⟩)
/-- all but the cells in S stays; S has none of the class -/
theorem CY.off {A : aS} {S : Nat → Prop} {c1 c2 : Nat} (y : CY A h u c1 v c2 na sa) (hf : sx_fr h h' S) (hS : ∀ q, S q → 117 ≤ q ∧ q ≤ 141) : CY A h' u c1 v c2 na sa ∧ ks h h' u v u v := by
  obtain ⟨⟨y0, yb, ysl, ynd, ydr, yjg, ycd, yar, yk⟩, ⟨v1, v2, v3, v4⟩, yn⟩ := y
  have hk : ∀ q, q < h.2 → (q < 117 ∨ 142 ≤ q) → h'.1 q = h.1 q := fun q hq hn => hf.2 q hq (fun z => by have := hS q z; omega)
  have lb := yb.lt
  have ld := ydr.2.lt
  have k : ks h h' u v u v := by
    rintro a t ⟨w, r, f, h1, h2, h3, h4, h5, ⟨h6, h6'⟩, h7, h8, h9⟩
    exact ⟨w, r, f, (hk a h6 (by omega)).trans h1, (hk w h6' (by omega)).trans h2, h3, h4, h5, ⟨Nat.lt_of_lt_of_le h6 hf.1, Nat.lt_of_lt_of_le h6' hf.1⟩, h7, h8, h9⟩
  have z : ∀ q, q < 117 → h'.1 q = h.1 q := fun q hq => hk q (by omega) (Or.inl hq)
  exact ⟨⟨⟨(z 64 (by omega)).trans y0, yb.keep (z 65 (by omega)) (hk u lb.2.1 (by omega)) hf.1, ysl.keep k (z 67 (by omega)) (fun i hi => z _ (by omega)), ynd.keep (z 68 (by omega)), ydr.keep (z 69 (by omega)) (z 70 (by omega)) (hk v ld.2.1 (by omega)) hf.1, yjg.keep (fun q _ _ => z q (by omega)), ycd.keep (fun q _ _ => z q (by omega)), yar.keep (z 111 (by omega)) (z 112 (by omega)), yk.keep k⟩, ⟨v1, v2, v3, by have := hf.1; omega⟩, yn.keep k (fun q q1 q2 _ => hk q q2 (Or.inr q1)) hf.1⟩, k⟩
theorem CX.off {A : aS} {S : Nat → Prop} (y : CX A h) (hf : sx_fr h h' S) (hS : ∀ q, S q → 117 ≤ q ∧ q ≤ 141) : CX A h' := by
  obtain ⟨u, c1, v, c2, na, sa, y⟩ := y
  exact ⟨u, c1, v, c2, na, sa, (y.off hf hS).1⟩
theorem RX.off {A : aS} (y : RX A h) (hf : sx_fr h h' cx_S) (h2 : 142 ≤ h.2) : RX A h' := by
  obtain ⟨F, S, ⟨m1, m2⟩, hR⟩ := y
  have hk : ∀ q, 117 ≤ q → q ≤ 141 → h'.1 q = h.1 q := fun q q1 q2 => hf.2 q (by omega) (fun z => z.2 ⟨q1, q2⟩)
  exact ⟨F, S, ⟨(hk 117 (by omega) (by omega)).trans m1, fun k hk' => (hk _ (by omega) (by omega)).trans (m2 k hk')⟩, hR⟩
end CK
