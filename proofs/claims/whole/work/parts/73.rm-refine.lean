/-! THE REFERENCE, 14: refine. -/
def nw (F : Nat → Nat → Int32) (N : Nat) (fr : Int32) (n : Nat) (U0 U1 : List Int32) : Prop := tm_n F N 0 U0 ∧ tm_n F N 1 U1 ∧ (F 2 N = 1 ∧ F 3 N = fr ∧ F 4 N = 0 ∧ F 5 N = 0 ∧ F 6 N = 0 ∧ F 7 N = nI n ∧ F 8 N = 0 ∧ F 9 N = 0)
def rf_kids (F F' : Nat → Nat → Int32) (n : Nat) (fr : Int32) (K : List (List Int32)) (N1 N2 : Nat) : Prop := (K = [] ∧ N1 = 0 ∧ N2 = 0) ∨ (∃ U0 U1, K = [U0, U1] ∧ lf F N1 ∧ N2 = 0 ∧ nw F' N1 fr n U0 U1) ∨ ∃ U0 U1 U2 U3, K = [U0, U1, U2, U3] ∧ lf F N1 ∧ lf (rm_u F 2 N1 1) N2 ∧ nw F' N1 fr n U0 U1 ∧ nw F' N2 fr n U2 U3
def nf (F : Nat → Nat → Int32) (n w : Nat) (v : Int32) (g : List Int32) (C : List (List Int32)) : Prop := F 4 n = nI w ∧ F 10 n = v ∧ tm_g F n g ∧ F 8 n = nI C.length ∧ ∀ i U, C[i]? = some U → i < 2 → tm_n F n (2 + i) U
theorem nf.kid {F1 F2 : Nat → Nat → Int32} {n w N n' : Nat} {v fr : Int32} {g U0 U1 : List Int32} {C : List (List Int32)} (h : nf F1 n w v g C) (hn1 : 1 ≤ n) (hN1 : 1 ≤ N) (hne : n ≠ N) (hc : ch_R F1 F2 N fr n' U0 U1) : nf F2 n w v g C := by
  obtain ⟨-, -, -, hc⟩ := hc
  obtain ⟨a1, a2, a3, a4, a5⟩ := h
  exact ⟨(hc 4 n (by omega) (by omega) (by omega)).trans a1, (hc 10 n (by omega) (by omega) (by omega)).trans a2, a3.keep (fun j hj => hc 11 _ (by omega) (by omega) (by omega)) (hc 12 _ (by omega) (by omega) (by omega)), (hc 8 n (by omega) (by omega) (by omega)).trans a4, fun i U hU hi => (a5 i U hU hi).keep (fun j hj => hc 0 _ (by omega) (by omega) (by omega)) (hc 1 _ (by omega) (by omega) (by omega))⟩
theorem nf.u {F1 : Nat → Nat → Int32} {n w k : Nat} {v x : Int32} {g : List Int32} {C : List (List Int32)} (h : nf F1 n w v g C) (hk : k = 5 ∨ k = 6) : nf (rm_u F1 k n x) n w v g C := by
  obtain ⟨a1, a2, a3, a4, a5⟩ := h
  exact ⟨(rm_uk (by omega)).trans a1, (rm_uk (by omega)).trans a2, a3.keep (fun j hj => rm_uk (by omega)) (rm_uk (by omega)), (rm_uk (by omega)).trans a4, fun i U hU hi => (a5 i U hU hi).keep (fun j hj => rm_uk (by omega)) (rm_uk (by omega))⟩
theorem nw.u {F : Nat → Nat → Int32} {N n n' k : Nat} {fr x : Int32} {U0 U1 : List Int32} (h : nw F N fr n U0 U1) (hne : N ≠ n') (hk : 2 ≤ k) : nw (rm_u F k n' x) N fr n U0 U1 := by
  obtain ⟨a1, a2, b2, b3, b4, b5, b6, b7, b8, b9⟩ := h
  have e : ∀ q, rm_u F k n' x q N = F q N := fun q => by
    by_cases hq : q = k
    · rw [hq]; exact rm_un hne
    · exact rm_uk hq
  exact ⟨a1.keep (fun j hj => rm_uk (by omega)) (rm_uk (by omega)), a2.keep (fun j hj => rm_uk (by omega)) (rm_uk (by omega)), (e 2).trans b2, (e 3).trans b3, (e 4).trans b4, (e 5).trans b5, (e 6).trans b6, (e 7).trans b7, (e 8).trans b8, (e 9).trans b9⟩
theorem nw.kid {F1 F2 : Nat → Nat → Int32} {n N M n' : Nat} {fr fr' : Int32} {U0 U1 V0 V1 : List Int32} (h : nw F1 N fr n U0 U1) (hN : 1 ≤ N) (hM : 1 ≤ M) (hne : N ≠ M) (hc : ch_R F1 F2 M fr' n' V0 V1) : nw F2 N fr n U0 U1 := by
  obtain ⟨-, -, -, hc⟩ := hc
  obtain ⟨a1, a2, b2, b3, b4, b5, b6, b7, b8, b9⟩ := h
  have e : ∀ q, 2 ≤ q → F2 q N = F1 q N := fun q hq => hc q N (Or.inl (by omega)) (Or.inl (by omega)) (Or.inr (Or.inr hne))
  exact ⟨a1.keep (fun j hj => hc 0 _ (by omega) (by omega) (by omega)) (hc 1 _ (by omega) (by omega) (by omega)), a2.keep (fun j hj => hc 0 _ (by omega) (by omega) (by omega)) (hc 1 _ (by omega) (by omega) (by omega)), (e 2 (by omega)).trans b2, (e 3 (by omega)).trans b3, (e 4 (by omega)).trans b4, (e 5 (by omega)).trans b5, (e 6 (by omega)).trans b6, (e 7 (by omega)).trans b7, (e 8 (by omega)).trans b8, (e 9 (by omega)).trans b9⟩
def rf_D (F F' : Nat → Nat → Int32) (n w : Nat) (v : Int32) (K C : List (List Int32)) (g : List Int32) (N1 N2 : Nat) : Prop := rfA F F' n [N2, N1] ∧ nf F' n w v g C ∧ F' 5 n = nI N1 ∧ F' 6 n = nI N2 ∧ rf_kids F F' n (if w = 8 then v else F 3 n) K N1 N2
theorem rfA.more {F F' : Nat → Nat → Int32} {n : Nat} {X Y : List Nat} (h : rfA F F' n X) (hXY : ∀ m, 1 ≤ m → m ∈ X → m ∈ Y) : rfA F F' n Y := ⟨fun m h1 h2 h3 h4 => h.1 m h1 h2 h3 (fun z => h4 (hXY m h1 z)), h.2⟩
theorem rfA.is {F F' : Nat → Nat → Int32} {n : Nat} {X : List Nat} (h : rfA F F' n X) : ∀ j, 1 ≤ j → j ≤ 16 → ¬ j ∈ X → F' 2 j = F 2 j := fun j h1 h2 h3 => by
  by_cases hj : j = n
  · rw [hj]; exact h.2.1.1 2 (Or.inl rfl)
  · exact (h.1 j h1 h2 hj h3).1 2 (by omega) (by omega)
/-- firsts and seconds -/
theorem rm_rftail {G : ia_G} {h0 h : ia_H} {d n w nk : Nat} {v fr z : Int32} {F F1 : Nat → Nat → Int32} {S1 : Nat → Int32} {K C : List (List Int32)} {g : List Int32} (hd : 2 ≤ d) (hm : rm_X h0 h F1 S1) (hn1 : 1 ≤ n) (hn : n ≤ 16) (hF : F 2 n ≠ 0) (hS : S1 3 = nI nk) (hK : 2 * nk = K.length) (hk2 : nk ≤ 2) (hA : rfA F F1 n []) (hf : nf F1 n w v g C) (hfr : fr = if w = 8 then v else F 3 n) (hU : ∀ i U, K[i]? = some U → tm_m F1 i U ∧ U.length ≤ 120) (hct : nk + ct F 16 ≤ 16) : ia_Sx pg G kk_M_refine d 0 0 268 [.ref 117, .int (nI n), .int (nI w), .int v, .int z, .int fr] [] h (fun rv h' => ∃ F' N1 N2, rm_X h0 h' F' S1 ∧ rf_D F F' n w v K C g N1 N2 ∧ rv = some (.int (nI N1))) := by
  have hne : ∀ N, F 2 N = 0 → n ≠ N := fun N hz e => hF (by rw [e]; exact hz)
  have hnk : nk = 0 ∨ nk = 1 ∨ nk = 2 := by omega
  rcases hnk with rfl | rfl | rfl
  · obtain rfl : K = [] := List.length_eq_zero_iff.mp (by omega)
    refine ia_go 1 rfl ?_
    refine ia_getf rfl hm.1.1 rfl ?_
    refine ia_go 2 rfl ?_
    refine ia_getf rfl hm.1.1 rfl ?_
    refine ia_go 1 rfl ?_
    rw [hS]
    rw [if_pos (by decide)]
    refine ia_go 1 rfl ?_
    refine rm_st (K := 5) rfl hm (by decide) rfl (show n < 17 by omega) (by decide) (fun h1 hm => ?_)
    refine ia_go 1 rfl ?_
    refine ia_getf rfl hm.1.1 rfl ?_
    refine ia_go 2 rfl ?_
    refine ia_getf rfl hm.1.1 rfl ?_
    refine ia_go 2 rfl ?_
    rw [hS]
    rw [if_pos (by decide)]
    refine ia_go 1 rfl ?_
    refine rm_st (K := 6) rfl hm (by decide) rfl (show n < 17 by omega) (by decide) (fun h1 hm => ?_)
    refine ia_go 1 rfl ?_
    refine ia_getf rfl hm.1.1 rfl ?_
    refine ia_go 1 rfl ?_
    refine rm_ld (K := 5) rfl hm (by decide) rfl (show n < 17 by omega) (by decide) ?_
    refine jd_rv1 rfl rfl rfl trivial ⟨_, 0, 0, hm, ⟨((hA.at hn1 hn (F2 := rm_u F1 5 n 0) (fun k j hc => ?_)).at hn1 hn (fun k j hc => ?_)).more (by simp), (hf.u (Or.inl rfl)).u (Or.inr rfl), (rm_uk (by decide)).trans rm_uu, rm_uu, Or.inl ⟨rfl, rfl, rfl⟩⟩, ?_⟩
    · unfold rc at hc; unfold rm_u; split
      · rw [if_neg (by omega)]
      · rfl
    · unfold rc at hc; unfold rm_u; split
      · rw [if_neg (by omega)]
      · rfl
    · rw [show rm_u (rm_u F1 5 n 0) 6 n 0 5 n = 0 from (rm_uk (by decide)).trans rm_uu]; rfl
  · obtain ⟨U0, U1, rfl⟩ : ∃ U0 U1, K = [U0, U1] := by
      match K, hK with
      | [a, b], _ => exact ⟨a, b, rfl⟩
    obtain ⟨N, l1, l2, l3, l4⟩ := ct_least (F := F) (i := 16) (by omega)
    have is1 : ∀ j, 1 ≤ j → j ≤ 16 → F1 2 j = F 2 j := fun j h1 h2 => hA.is j h1 h2 (by simp)
    obtain ⟨m0, g0⟩ := hU 0 U0 rfl
    obtain ⟨m1, g1⟩ := hU 1 U1 rfl
    have hnN := hne N l3
    refine ia_go 1 rfl ?_
    refine ia_getf rfl hm.1.1 rfl ?_
    refine ia_go 2 rfl ?_
    refine ia_getf rfl hm.1.1 rfl ?_
    refine ia_go 1 rfl ?_
    rw [hS]
    rw [if_neg (by decide)]
    refine ia_go 4 rfl ?_
    refine jd_cV 117 [.int (nI n), .int (nI 0), .int fr] [.int (nI n), .ref 123] 0 0 (d' := d - 1) rfl rfl rfl hm.1.1 rfl rfl (by omega) (by omega) (by omega) (rm_child (by omega) hm.1 (by omega) l1 l2 ((is1 N l1 l2).trans l3) (fun j j1 j2 => by rw [is1 j j1 (by omega)]; exact l4 j j1 j2) m0 m1 g0 g1) ?_
    rintro rv h2 ⟨rfl, F2, hm2, hc2⟩
    have hm := hm.tr hm2
    refine ia_go 1 rfl ?_
    refine rm_st (K := 5) rfl hm (by decide) rfl (show n < 17 by omega) (by decide) (fun h1 hm => ?_)
    refine ia_go 1 rfl ?_
    refine ia_getf rfl hm.1.1 rfl ?_
    refine ia_go 2 rfl ?_
    refine ia_getf rfl hm.1.1 rfl ?_
    refine ia_go 2 rfl ?_
    rw [hS]
    rw [if_pos (by decide)]
    refine ia_go 1 rfl ?_
    refine rm_st (K := 6) rfl hm (by decide) rfl (show n < 17 by omega) (by decide) (fun h1 hm => ?_)
    refine ia_go 1 rfl ?_
    refine ia_getf rfl hm.1.1 rfl ?_
    refine ia_go 1 rfl ?_
    refine rm_ld (K := 5) rfl hm (by decide) rfl (show n < 17 by omega) (by decide) ?_
    refine jd_rv1 rfl rfl rfl trivial ⟨_, N, 0, hm, ⟨(((hA.kid hn1 hn l1 l2 hnN hc2).at hn1 hn (F2 := rm_u F2 5 n (nI N)) (fun k j hc => ?_)).at hn1 hn (fun k j hc => ?_)).more (by intro m _ h; simp at h; simp [h]), ((hf.kid hn1 l1 hnN hc2).u (Or.inl rfl)).u (Or.inr rfl), (rm_uk (by decide)).trans rm_uu, rm_uu, Or.inr (Or.inl ⟨U0, U1, rfl, ⟨l1, l2, l3, l4⟩, rfl, hfr ▸ ((show nw F2 N fr n U0 U1 from ⟨hc2.1, hc2.2.1, hc2.2.2.1⟩).u (fun z => hnN z.symm) (by decide)).u (fun z => hnN z.symm) (by decide)⟩)⟩, ?_⟩
    · unfold rc at hc; unfold rm_u; split
      · rw [if_neg (by omega)]
      · rfl
    · unfold rc at hc; unfold rm_u; split
      · rw [if_neg (by omega)]
      · rfl
    · rw [show rm_u (rm_u F2 5 n (nI N)) 6 n 0 5 n = nI N from (rm_uk (by decide)).trans rm_uu]
  · obtain ⟨U0, U1, U2, U3, rfl⟩ : ∃ U0 U1 U2 U3, K = [U0, U1, U2, U3] := by
      match K, hK with
      | [a, b, c, d], _ => exact ⟨a, b, c, d, rfl⟩
    obtain ⟨N, l1, l2, l3, l4⟩ := ct_least (F := F) (i := 16) (by omega)
    obtain ⟨M, k1, k2, k3, k4⟩ := ct_least (F := rm_u F 2 N 1) (i := 16) (by rw [ct_upd l1 l2 l3 (by decide)]; omega)
    have hNM : N ≠ M := fun e => by rw [← e, rm_uu] at k3; exact absurd k3 (by decide)
    have k3' : F 2 M = 0 := by rw [rm_un (fun e => hNM e.symm)] at k3; exact k3
    have is1 : ∀ j, 1 ≤ j → j ≤ 16 → F1 2 j = F 2 j := fun j h1 h2 => hA.is j h1 h2 (by simp)
    obtain ⟨m0, g0⟩ := hU 0 U0 rfl
    obtain ⟨m1, g1⟩ := hU 1 U1 rfl
    obtain ⟨m2, g2⟩ := hU 2 U2 rfl
    obtain ⟨m3, g3⟩ := hU 3 U3 rfl
    have hnN := hne N l3
    have hnM := hne M k3'
    refine ia_go 1 rfl ?_
    refine ia_getf rfl hm.1.1 rfl ?_
    refine ia_go 2 rfl ?_
    refine ia_getf rfl hm.1.1 rfl ?_
    refine ia_go 1 rfl ?_
    rw [hS]
    rw [if_neg (by decide)]
    refine ia_go 4 rfl ?_
    refine jd_cV 117 [.int (nI n), .int (nI 0), .int fr] [.int (nI n), .ref 123] 0 0 (d' := d - 1) rfl rfl rfl hm.1.1 rfl rfl (by omega) (by omega) (by omega) (rm_child (by omega) hm.1 (by omega) l1 l2 ((is1 N l1 l2).trans l3) (fun j j1 j2 => by rw [is1 j j1 (by omega)]; exact l4 j j1 j2) m0 m1 g0 g1) ?_
    rintro rv h2 ⟨rfl, F2, hm2, hc2⟩
    have hm := hm.tr hm2
    refine ia_go 1 rfl ?_
    refine rm_st (K := 5) rfl hm (by decide) rfl (show n < 17 by omega) (by decide) (fun h1 hm => ?_)
    refine ia_go 1 rfl ?_
    refine ia_getf rfl hm.1.1 rfl ?_
    refine ia_go 2 rfl ?_
    refine ia_getf rfl hm.1.1 rfl ?_
    refine ia_go 2 rfl ?_
    rw [hS]
    rw [if_neg (by decide)]
    have hA2 : rfA F (rm_u F2 5 n (nI N)) n [N] := (hA.kid hn1 hn l1 l2 hnN hc2).at hn1 hn (fun k j hc => by
      unfold rc at hc; unfold rm_u; split
      · rw [if_neg (by omega)]
      · rfl)
    have f13 : ∀ k j, (k = 0 ∧ 9300 ≤ j) ∨ k = 13 → rm_u F2 5 n (nI N) k j = F1 k j := fun k j h => (rm_uk (by omega)).trans (hc2.2.2.2 k j (by omega) (by omega) (by omega))
    have is2 : ∀ j, 1 ≤ j → j ≤ 16 → rm_u F2 5 n (nI N) 2 j = rm_u F 2 N 1 2 j := fun j j1 j2 => by
      by_cases hj : j = N
      · rw [hj, rm_uu, rm_uk (by decide)]; exact hc2.2.2.1.1
      · rw [rm_un hj]; exact hA2.is j j1 j2 (by simpa using hj)
    refine ia_go 4 rfl ?_
    refine jd_cV 117 [.int (nI n), .int (nI 1), .int fr] [.int (nI n), .ref 124] 0 0 (d' := d - 1) rfl rfl rfl hm.1.1 rfl rfl (by omega) (by omega) (by omega) (rm_child (by omega) hm.1 (by omega) k1 k2 ((is2 M k1 k2).trans k3) (fun j j1 j2 => by rw [is2 j j1 (by omega)]; exact k4 j j1 j2) (m2.far (by omega) f13) (m3.far (by omega) f13) g2 g3) ?_
    rintro rv h3 ⟨rfl, F3, hm3, hc3⟩
    have hm := hm.tr hm3
    refine ia_go 1 rfl ?_
    refine rm_st (K := 6) rfl hm (by decide) rfl (show n < 17 by omega) (by decide) (fun h1 hm => ?_)
    refine ia_go 1 rfl ?_
    refine ia_getf rfl hm.1.1 rfl ?_
    refine ia_go 1 rfl ?_
    refine rm_ld (K := 5) rfl hm (by decide) rfl (show n < 17 by omega) (by decide) ?_
    have e5 : F3 5 n = nI N := (hc3.2.2.2 5 n (by omega) (by omega) (by omega)).trans rm_uu
    refine jd_rv1 rfl rfl rfl trivial ⟨_, N, M, hm, ⟨(hA2.kid hn1 hn k1 k2 hnM hc3).at hn1 hn (fun k j hc => ?_), (((hf.kid hn1 l1 hnN hc2).u (Or.inl rfl)).kid hn1 k1 hnM hc3).u (Or.inr rfl), (rm_uk (by decide)).trans e5, rm_uu, Or.inr (Or.inr ⟨U0, U1, U2, U3, rfl, ⟨l1, l2, l3, l4⟩, ⟨k1, k2, k3, k4⟩, hfr ▸ (((show nw F2 N fr n U0 U1 from ⟨hc2.1, hc2.2.1, hc2.2.2.1⟩).u (fun z => hnN z.symm) (by decide)).kid l1 k1 hNM hc3).u (fun z => hnN z.symm) (by decide), hfr ▸ (show nw F3 M fr n U2 U3 from ⟨hc3.1, hc3.2.1, hc3.2.2.1⟩).u (fun z => hnM z.symm) (by decide)⟩)⟩, ?_⟩
    · unfold rc at hc; unfold rm_u; split
      · rw [if_neg (by omega)]
      · rfl
    · rw [show rm_u F3 6 n (nI M) 5 n = nI N from (rm_uk (by decide)).trans e5]
