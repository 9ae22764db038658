/-! THE REFERENCE, 23: text, prune. -/
/-- the j-th character of the text w of the node n -/
def txc (F : Nat → Nat → Int32) (T : Nat → Nat → List Int32) (nc : Nat → Nat) (x y z : Int32) (c : Int32) : Prop := ∃ n w j, (1 ≤ n ∧ n ≤ 16 ∧ x = nI n ∧ F 2 n ≠ 0) ∧ (w ≤ 3 ∧ y = nI w ∧ (w < 2 ∨ w - 2 < nc n)) ∧ z = nI j ∧ (T n w)[j]? = some c
theorem rm_text {G : ia_G} {h0 : ia_H} {d : Nat} {x y z : Int32} {F : Nat → Nat → Int32} {S : Nat → Int32} {T : Nat → Nat → List Int32} {nc : Nat → Nat} (hd : 1 ≤ d) (hm : rm h0 F S) (hT : ∀ n, 1 ≤ n → n ≤ 16 → F 2 n ≠ 0 → (F 8 n = nI (nc n) ∧ nc n ≤ 2) ∧ ∀ w, w ≤ 3 → (w < 2 ∨ w - 2 < nc n) → tm_n F n w (T n w)) : ia_Cn pg G kk_M_text d 0 0 [.ref 117, .int x, .int y, .int z] h0 (fun rv h' => h' = h0 ∧ (((¬ ∃ c, txc F T nc x y z c) ∧ rv = some (.int (-1))) ∨ ∃ c, txc F T nc x y z c ∧ rv = some (.int c))) := by
  have hX := hm.X
  have bad : (¬ ∃ c, txc F T nc x y z c) → ia_Sx pg G kk_M_text d 0 0 38 [.ref 117, .int x, .int y, .int z, .retAddr 0] [] h0 (fun rv h' => h' = h0 ∧ (((¬ ∃ c, txc F T nc x y z c) ∧ rv = some (.int (-1))) ∨ ∃ c, txc F T nc x y z c ∧ rv = some (.int c))) := by
    intro hno
    refine ia_go 2 rfl ?_
    dsimp only [ia_s1, ia_s2, ia_cl, ia_D, List.getElem?_cons_zero, List.getElem?_cons_succ, List.set_cons_zero, List.set_cons_succ]
    refine ia_go 2 rfl ?_
    rw [if_pos (by decide)]
    refine ia_go 1 rfl ?_
    exact jd_rv1 rfl rfl rfl trivial ⟨rfl, Or.inl ⟨hno, rfl⟩⟩
  refine jd_met (ls := [.ref 117, .int x, .int y, .int z, .retAddr 0]) rfl rfl rfl ?_
  refine ia_go 2 rfl ?_
  refine jd_cV 117 [.int x] [] 0 0 (d' := d - 1) rfl rfl rfl hm.1 rfl rfl (by omega) (by omega) (by omega) (rm_isNode hm) ?_
  rintro rv h1 ⟨rfl, ⟨hno, rfl⟩ | ⟨n, hn1, hn, rfl, hF, rfl⟩⟩
  case inl =>
    refine ia_go 1 rfl ?_
    rw [if_pos (by decide)]
    exact bad (by rintro ⟨c, n, w, j, ⟨a1, a2, a3, a4⟩, -⟩; exact hno ⟨n, a1, a2, a3, a4⟩)
  obtain ⟨⟨c1, c2⟩, c3⟩ := hT n hn1 hn hF
  by_cases y0 : y < 0
  ·
    refine ia_go 1 rfl ?_
    rw [if_neg (by decide)]
    refine ia_go 2 rfl ?_
    rw [if_pos y0]
    exact bad (by rintro ⟨c, n', w, j, -, ⟨b1, rfl, -⟩, -⟩; exact absurd y0 (nI_pos (by omega)))
  by_cases y3 : 3 < y
  ·
    refine ia_go 1 rfl ?_
    rw [if_neg (by decide)]
    refine ia_go 2 rfl ?_
    rw [if_neg y0]
    refine ia_go 3 rfl ?_
    rw [if_pos y3]
    exact bad (by rintro ⟨c, n', w, j, -, ⟨b1, rfl, -⟩, -⟩; exact absurd y3 (nI_nlt (a := 3) b1 (by omega)))
  obtain ⟨w, hw, rfl⟩ := nI_of2 (M := 3) (n := 3) (by decide) y0 (Int32.not_lt.mp y3)
  have good : (w < 2 ∨ w - 2 < nc n) → ia_Sx pg G kk_M_text d 0 0 34 [.ref 117, .int (nI n), .int (nI w), .int z, .retAddr 0] [] h1 (fun rv h' => h' = h1 ∧ (((¬ ∃ c, txc F T nc (nI n) (nI w) z c) ∧ rv = some (.int (-1))) ∨ ∃ c, txc F T nc (nI n) (nI w) z c ∧ rv = some (.int c))) := by
    intro hg
    obtain ⟨t1, t2, t3⟩ := c3 w hw hg
    have isT : ∀ c, txc F T nc (nI n) (nI w) z c → ∃ j, z = nI j ∧ (T n w)[j]? = some c := by
      rintro c ⟨n', w', j, ⟨a1, a2, a3, a4⟩, ⟨b1, b2, b3⟩, e, hj⟩
      rw [nI_eq (by omega) (by omega)] at a3 b2
      subst a3
      subst b2
      exact ⟨j, e, hj⟩
    by_cases z0 : z < 0
    ·
      refine ia_go 3 rfl ?_
      dsimp only [ia_s1, ia_s2, ia_cl, ia_D, List.getElem?_cons_zero, List.getElem?_cons_succ, List.set_cons_zero, List.set_cons_succ]
      refine ia_go 2 rfl ?_
      rw [if_neg (by decide)]
      refine ia_go 2 rfl ?_
      rw [if_pos z0]
      refine ia_go 1 rfl ?_
      exact jd_rv1 rfl rfl rfl trivial ⟨rfl, Or.inl ⟨by rintro ⟨c, hc⟩; obtain ⟨j, rfl, hj⟩ := isT c hc; exact absurd z0 (nI_pos (by have := (List.getElem?_eq_some_iff.mp hj).1; omega)), rfl⟩⟩
    by_cases zl : nI (T n w).length ≤ z
    ·
      refine ia_go 3 rfl ?_
      dsimp only [ia_s1, ia_s2, ia_cl, ia_D, List.getElem?_cons_zero, List.getElem?_cons_succ, List.set_cons_zero, List.set_cons_succ]
      refine ia_go 2 rfl ?_
      rw [if_neg (by decide)]
      refine ia_go 2 rfl ?_
      rw [if_neg z0]
      refine ia_go 2 rfl ?_
      refine ia_getf rfl hX.1.1 rfl ?_
      refine ia_go 2 rfl ?_
      refine jd_cS [.int (nI n), .int (nI w)] [.ref 119, .int z] 0 0 (d' := d - 1) rfl rfl rfl rfl rfl (by omega) (by omega) (by omega) (rm_lengthAt hn1) ?_
      rintro rv h9 ⟨rfl, hh⟩
      subst hh
      refine rm_ld (K := 1) rfl hX (by decide) rfl (show 4 + 4 * (n - 1) + w < 70 by omega) (by decide) ?_
      rw [t2]
      refine ia_go 1 rfl ?_
      rw [if_pos zl]
      refine ia_go 1 rfl ?_
      exact jd_rv1 rfl rfl rfl trivial ⟨rfl, Or.inl ⟨by rintro ⟨c, hc⟩; obtain ⟨j, rfl, hj⟩ := isT c hc; exact absurd zl (nI_ge (List.getElem?_eq_some_iff.mp hj).1 (by omega)), rfl⟩⟩
    obtain ⟨j, hj, rfl⟩ := nI_of z0
    have hjl : j < (T n w).length := by
      rcases Nat.lt_or_ge j (T n w).length with e | e
      · exact e
      · exact absurd (nI_le e hj) zl
    have hc : F 0 (500 * n + 121 * w + j) = (T n w)[j] := t1 j _ (List.getElem?_eq_getElem hjl)
    refine ia_go 3 rfl ?_
    dsimp only [ia_s1, ia_s2, ia_cl, ia_D, List.getElem?_cons_zero, List.getElem?_cons_succ, List.set_cons_zero, List.set_cons_succ]
    refine ia_go 2 rfl ?_
    rw [if_neg (by decide)]
    refine ia_go 2 rfl ?_
    rw [if_neg z0]
    refine ia_go 2 rfl ?_
    refine ia_getf rfl hX.1.1 rfl ?_
    refine ia_go 2 rfl ?_
    refine jd_cS [.int (nI n), .int (nI w)] [.ref 119, .int (nI j)] 0 0 (d' := d - 1) rfl rfl rfl rfl rfl (by omega) (by omega) (by omega) (rm_lengthAt hn1) ?_
    rintro rv h9 ⟨rfl, hh⟩
    subst hh
    refine rm_ld (K := 1) rfl hX (by decide) rfl (show 4 + 4 * (n - 1) + w < 70 by omega) (by decide) ?_
    rw [t2]
    refine ia_go 1 rfl ?_
    rw [if_neg zl]
    refine ia_go 1 rfl ?_
    refine ia_getf rfl hX.1.1 rfl ?_
    refine ia_go 2 rfl ?_
    refine jd_cS [.int (nI n), .int (nI w)] [.ref 118] 0 0 (d' := d - 1) rfl rfl rfl rfl rfl (by omega) (by omega) (by omega) (rm_placeOf) ?_
    rintro rv h9 ⟨rfl, hh⟩
    subst hh
    refine ia_go 2 rfl ?_
    rw [nI_add]
    refine rm_ld (K := 0) rfl hX (by decide) rfl (show 500 * n + 121 * w + j < 10600 by omega) (by decide) ?_
    rw [hc]
    refine ia_go 1 rfl ?_
    exact jd_rv1 rfl rfl rfl trivial ⟨rfl, Or.inr ⟨_, ⟨n, w, j, ⟨hn1, hn, rfl, hF⟩, ⟨hw, rfl, hg⟩, rfl, List.getElem?_eq_getElem hjl⟩, rfl⟩⟩
  by_cases w2 : w < 2
  ·
    refine ia_go 1 rfl ?_
    rw [if_neg (by decide)]
    refine ia_go 2 rfl ?_
    rw [if_neg y0]
    refine ia_go 3 rfl ?_
    rw [if_neg y3]
    refine ia_go 3 rfl ?_
    rw [if_pos (show nI w < 2 from nI_lt (b := 2) w2 (by omega))]
    exact good (Or.inl w2)
  have hsub : nI w - 2 = nI (w - 2) := jd_sub (b := 2) (by omega)
  by_cases wc : w - 2 < nc n
  ·
    refine ia_go 1 rfl ?_
    rw [if_neg (by decide)]
    refine ia_go 2 rfl ?_
    rw [if_neg y0]
    refine ia_go 3 rfl ?_
    rw [if_neg y3]
    refine ia_go 3 rfl ?_
    rw [if_neg (show ¬ nI w < 2 from nI_nlt (b := 2) (by omega) (by omega))]
    refine ia_go 4 rfl ?_
    refine ia_getf rfl hX.1.1 rfl ?_
    refine ia_go 1 rfl ?_
    rw [hsub]
    refine rm_ld (K := 8) rfl hX (by decide) rfl (show n < 17 by omega) (by decide) ?_
    rw [c1]
    refine ia_go 1 rfl ?_
    rw [if_neg (show ¬ nI (nc n) ≤ nI (w - 2) from nI_ge wc (by omega))]
    exact good (Or.inr wc)
  ·
    refine ia_go 1 rfl ?_
    rw [if_neg (by decide)]
    refine ia_go 2 rfl ?_
    rw [if_neg y0]
    refine ia_go 3 rfl ?_
    rw [if_neg y3]
    refine ia_go 3 rfl ?_
    rw [if_neg (show ¬ nI w < 2 from nI_nlt (b := 2) (by omega) (by omega))]
    refine ia_go 4 rfl ?_
    refine ia_getf rfl hX.1.1 rfl ?_
    refine ia_go 1 rfl ?_
    rw [hsub]
    refine rm_ld (K := 8) rfl hX (by decide) rfl (show n < 17 by omega) (by decide) ?_
    rw [c1]
    refine ia_go 1 rfl ?_
    rw [if_pos (show nI (nc n) ≤ nI (w - 2) from nI_le (by omega) (by omega))]
    refine bad ?_
    rintro ⟨c, n', w', j, ⟨a1, a2, a3, a4⟩, ⟨b1, b2, b3⟩, -⟩
    rw [nI_eq (by omega) (by omega)] at a3 b2
    subst a3
    subst b2
    omega
/-- the nodes that go when q is pruned -/
def pw (F : Nat → Nat → Int32) (P : Nat → Nat) (q k : Nat) : Prop := F 2 k ≠ 0 ∧ io P (P k) q
noncomputable def pn (F : Nat → Nat → Int32) (P : Nat → Nat) (q : Nat) : Nat → Nat
  | 0 => 0
  | i + 1 => pn F P q i + @ite Nat (pw F P q (i + 1)) (Classical.propDecidable _) 1 0
theorem rm_pr1 {G : ia_G} {h0 : ia_H} {d q : Nat} {F : Nat → Nat → Int32} {S : Nat → Int32} {P r : Nat → Nat} {Post : Option Value → ia_H → Prop} (hd : 1 ≤ d) (ht : tr F P r) (hq : q ≤ 16) (kk : ∀ h' F', rm_X h0 h' F' S → (∀ j, 1 ≤ j → j ≤ 16 → bn (pw F P q j) (F' 14 j)) → (∀ k j, k ≠ 14 → F' k j = F k j) → ia_Sx pg G kk_M_prune d 0 0 76 [.ref 117, .int (nI q), .int (nI (pn F P q 16)), .int (nI 17)] [] h' Post) : ∀ (s i : Nat), i + 1 + s = 17 → ∀ (h : ia_H) (F1 : Nat → Nat → Int32), rm_X h0 h F1 S → (∀ j, 1 ≤ j → j ≤ i → bn (pw F P q j) (F1 14 j)) → (∀ k j, k ≠ 14 → F1 k j = F k j) → ia_Sx pg G kk_M_prune d 0 0 26 [.ref 117, .int (nI q), .int (nI (pn F P q i)), .int (nI (i + 1))] [] h Post := by
  intro s
  induction s with
  | zero =>
    intro i hi h F1 hm h1 h2
    obtain rfl : i = 16 := by omega
    refine ia_go 3 rfl ?_
    rw [if_pos (by decide)]
    exact kk h F1 hm h1 h2
  | succ s ih =>
    intro i hi h F1 hm h1 h2
    have ht1 : tr F1 P r := ⟨ht.1, fun n a b c => by
      have := ht.2 n a b (by rw [← h2 2 n (by decide)]; exact c)
      rw [h2 7 n (by decide), h2 2 (P n) (by decide)]
      exact this⟩
    have nxt : ∀ e : Int32, bn (pw F P q (i + 1)) e → ia_Sx pg G kk_M_prune d 0 0 60 [.ref 117, .int (nI q), .int (nI (pn F P q i)), .int (nI (i + 1))] [.int e, .int (nI (i + 1)), .ref 132] h Post := by
      intro e he
      refine rm_st (K := 14) rfl hm (by decide) rfl (show i + 1 < 130 by omega) (by decide) (fun h9 hm => ?_)
      refine ia_go 2 rfl ?_
      refine ia_getf rfl hm.1.1 rfl ?_
      refine ia_go 1 rfl ?_
      refine rm_ld (K := 14) rfl hm (by decide) rfl (show i + 1 < 130 by omega) (by decide) ?_
      rw [rm_uu]
      refine ia_go 2 rfl ?_
      dsimp only [ia_s1, ia_s2, ia_cl, ia_D, List.getElem?_cons_zero, List.getElem?_cons_succ, List.set_cons_zero, List.set_cons_succ]
      refine ia_go 1 rfl ?_
      dsimp only [ia_s1, ia_s2, ia_cl, ia_D, List.getElem?_cons_zero, List.getElem?_cons_succ, List.set_cons_zero, List.set_cons_succ]
      refine ia_go 1 rfl ?_
      rw [show nI (i + 1) + Int32.ofInt 1 = nI (i + 1 + 1) from nI_1 (i + 1)]
      have hs : nI (pn F P q i) + e = nI (pn F P q (i + 1)) := by
        rw [show pn F P q (i + 1) = pn F P q i + @ite Nat (pw F P q (i + 1)) (Classical.propDecidable _) 1 0 from rfl]
        rcases he with ⟨rfl, hp⟩ | ⟨rfl, hp⟩
        · rw [if_pos hp]; exact nI_1 _
        · rw [if_neg hp]; exact nI_add _ 0
      rw [hs]
      refine ih (i + 1) (by omega) _ _ hm (fun j a b => ?_) (fun k j hk => (rm_uk hk).trans (h2 k j hk))
      by_cases hj : j = i + 1
      · subst hj; rw [rm_uu]; exact he
      · rw [rm_un hj]; exact h1 j a (by omega)
    by_cases hz : F1 2 (i + 1) = 0
    ·
      refine ia_go 3 rfl ?_
      rw [if_neg (show ¬ (17 : Int32) ≤ nI (i + 1) from nI_ge (b := 17) (by omega) (by omega))]
      refine ia_go 1 rfl ?_
      refine ia_getf rfl hm.1.1 rfl ?_
      refine ia_go 2 rfl ?_
      refine ia_getf rfl hm.1.1 rfl ?_
      refine ia_go 1 rfl ?_
      refine rm_zld (K := 2) rfl hm (by decide) rfl (show i + 1 < 17 by omega) (by decide) ?_
      refine ia_go 1 rfl ?_
      rw [if_pos hz]
      refine ia_go 1 rfl ?_
      exact nxt 0 (Or.inr ⟨rfl, fun z => z.1 (by rw [← h2 2 _ (by decide)]; exact hz)⟩)
    ·
      refine ia_go 3 rfl ?_
      rw [if_neg (show ¬ (17 : Int32) ≤ nI (i + 1) from nI_ge (b := 17) (by omega) (by omega))]
      refine ia_go 1 rfl ?_
      refine ia_getf rfl hm.1.1 rfl ?_
      refine ia_go 2 rfl ?_
      refine ia_getf rfl hm.1.1 rfl ?_
      refine ia_go 1 rfl ?_
      refine rm_zld (K := 2) rfl hm (by decide) rfl (show i + 1 < 17 by omega) (by decide) ?_
      refine ia_go 1 rfl ?_
      rw [if_neg hz]
      refine ia_go 3 rfl ?_
      refine jd_cV 117 [.int (nI (i + 1)), .int (nI q)] [.int (nI (i + 1)), .ref 132] 0 0 (d' := d - 1) rfl rfl rfl hm.1.1 rfl rfl (by omega) (by omega) (by omega) (rm_cameOf hm.1 ht1 hq (by omega) (by omega) hz) ?_
      rintro rv h9 ⟨hh, b, rfl, hb⟩
      subst hh
      have hz' : F 2 (i + 1) ≠ 0 := by rw [← h2 2 _ (by decide)]; exact hz
      rcases hb with ⟨rfl, hb⟩ | ⟨rfl, hb⟩
      ·
        refine ia_go 1 rfl ?_
        rw [if_neg (by decide)]
        refine ia_go 2 rfl ?_
        exact nxt 1 (Or.inl ⟨rfl, hz', hb⟩)
      ·
        refine ia_go 1 rfl ?_
        rw [if_pos (by decide)]
        refine ia_go 1 rfl ?_
        exact nxt 0 (Or.inr ⟨rfl, fun z => hb z.2⟩)

theorem rm_pr2 {G : ia_G} {h0 : ia_H} {d q : Nat} {z : Int32} {F F0 : Nat → Nat → Int32} {S : Nat → Int32} {P : Nat → Nat} {Post : Option Value → ia_H → Prop} (hB : ∀ j, 1 ≤ j → j ≤ 16 → F 2 j = 0 ∨ F 2 j = 1) (hw : ∀ j, 1 ≤ j → j ≤ 16 → bn (pw F0 P q j) (F 14 j)) (kk : ∀ h' F', rm_X h0 h' F' S → (∀ j, 1 ≤ j → j ≤ 16 → (pw F0 P q j → F' 2 j = 0) ∧ (¬ pw F0 P q j → F' 2 j = F 2 j)) → (∀ k j, k ≠ 2 ∨ j = 0 ∨ 17 ≤ j → F' k j = F k j) → ia_Sx pg G kk_M_prune d 0 0 119 [.ref 117, .int (nI q), .int z, .int (nI 17)] [] h' Post) : ∀ (s i : Nat), i + 1 + s = 17 → ∀ (h : ia_H) (F1 : Nat → Nat → Int32), rm_X h0 h F1 S → (∀ j, 1 ≤ j → j ≤ i → (pw F0 P q j → F1 2 j = 0) ∧ (¬ pw F0 P q j → F1 2 j = F 2 j)) → (∀ k j, k ≠ 2 ∨ j = 0 ∨ i < j → F1 k j = F k j) → ia_Sx pg G kk_M_prune d 0 0 78 [.ref 117, .int (nI q), .int z, .int (nI (i + 1))] [] h Post := by
  intro s
  induction s with
  | zero =>
    intro i hi h F1 hm h1 h2
    obtain rfl : i = 16 := by omega
    refine ia_go 3 rfl ?_
    rw [if_pos (by decide)]
    exact kk h F1 hm h1 (fun k j hk => h2 k j (by omega))
  | succ s ih =>
    intro i hi h F1 hm h1 h2
    have nxt : ∀ e : Int32, (e = 0 ∨ e = 1) → ((pw F0 P q (i + 1) → e = 0) ∧ (¬ pw F0 P q (i + 1) → e = F 2 (i + 1))) → ia_Sx pg G kk_M_prune d 0 0 112 [.ref 117, .int (nI q), .int z, .int (nI (i + 1))] [.int e, .int (nI (i + 1)), .ref 120] h Post := by
      intro e he0 he
      refine rm_zst (K := 2) rfl hm (by decide) rfl (show i + 1 < 17 by omega) (by decide) he0 (fun h9 hm => ?_)
      refine ia_go 1 rfl ?_
      dsimp only [ia_s1, ia_s2, ia_cl, ia_D, List.getElem?_cons_zero, List.getElem?_cons_succ, List.set_cons_zero, List.set_cons_succ]
      refine ia_go 1 rfl ?_
      rw [show nI (i + 1) + Int32.ofInt 1 = nI (i + 1 + 1) from nI_1 (i + 1)]
      refine ih (i + 1) (by omega) _ _ hm (fun j a b => ?_) (fun k j hk => ?_)
      · by_cases hj : j = i + 1
        · subst hj; rw [rm_uu]; exact he
        · rw [rm_un hj]; exact h1 j a (by omega)
      · by_cases hk2 : k = 2
        · subst hk2; rw [rm_un (by omega)]; exact h2 2 j (by omega)
        · rw [rm_uk hk2]; exact h2 k j (Or.inl hk2)
    have e2 : F1 2 (i + 1) = F 2 (i + 1) := h2 2 (i + 1) (by omega)
    have e14 : F1 14 (i + 1) = F 14 (i + 1) := h2 14 (i + 1) (Or.inl (by decide))
    have hb := hw (i + 1) (by omega) (by omega)
    by_cases hz : F 2 (i + 1) = 0
    ·
      refine ia_go 3 rfl ?_
      rw [if_neg (show ¬ (17 : Int32) ≤ nI (i + 1) from nI_ge (b := 17) (by omega) (by omega))]
      refine ia_go 1 rfl ?_
      refine ia_getf rfl hm.1.1 rfl ?_
      refine ia_go 2 rfl ?_
      refine ia_getf rfl hm.1.1 rfl ?_
      refine ia_go 1 rfl ?_
      refine rm_zld (K := 2) rfl hm (by decide) rfl (show i + 1 < 17 by omega) (by decide) ?_
      rw [e2]
      refine ia_go 1 rfl ?_
      rw [if_pos hz]
      refine ia_go 1 rfl ?_
      exact nxt 0 (Or.inl rfl) ⟨fun _ => rfl, fun _ => hz.symm⟩
    have h21 : F 2 (i + 1) = 1 := (hB (i + 1) (by omega) (by omega)).resolve_left hz
    rcases hb with ⟨hb1, hb⟩ | ⟨hb1, hb⟩
    ·
      refine ia_go 3 rfl ?_
      rw [if_neg (show ¬ (17 : Int32) ≤ nI (i + 1) from nI_ge (b := 17) (by omega) (by omega))]
      refine ia_go 1 rfl ?_
      refine ia_getf rfl hm.1.1 rfl ?_
      refine ia_go 2 rfl ?_
      refine ia_getf rfl hm.1.1 rfl ?_
      refine ia_go 1 rfl ?_
      refine rm_zld (K := 2) rfl hm (by decide) rfl (show i + 1 < 17 by omega) (by decide) ?_
      rw [e2]
      refine ia_go 1 rfl ?_
      rw [if_neg hz]
      refine ia_go 1 rfl ?_
      refine ia_getf rfl hm.1.1 rfl ?_
      refine ia_go 1 rfl ?_
      refine rm_ld (K := 14) rfl hm (by decide) rfl (show i + 1 < 130 by omega) (by decide) ?_
      rw [e14, hb1]
      refine ia_go 1 rfl ?_
      rw [if_pos (by decide)]
      refine ia_go 1 rfl ?_
      exact nxt 0 (Or.inl rfl) ⟨fun _ => rfl, fun z => absurd hb z⟩
    ·
      refine ia_go 3 rfl ?_
      rw [if_neg (show ¬ (17 : Int32) ≤ nI (i + 1) from nI_ge (b := 17) (by omega) (by omega))]
      refine ia_go 1 rfl ?_
      refine ia_getf rfl hm.1.1 rfl ?_
      refine ia_go 2 rfl ?_
      refine ia_getf rfl hm.1.1 rfl ?_
      refine ia_go 1 rfl ?_
      refine rm_zld (K := 2) rfl hm (by decide) rfl (show i + 1 < 17 by omega) (by decide) ?_
      rw [e2]
      refine ia_go 1 rfl ?_
      rw [if_neg hz]
      refine ia_go 1 rfl ?_
      refine ia_getf rfl hm.1.1 rfl ?_
      refine ia_go 1 rfl ?_
      refine rm_ld (K := 14) rfl hm (by decide) rfl (show i + 1 < 130 by omega) (by decide) ?_
      rw [e14, hb1]
      refine ia_go 1 rfl ?_
      rw [if_neg (by decide)]
      refine ia_go 2 rfl ?_
      exact nxt 1 (Or.inr rfl) ⟨fun z => absurd z hb, fun _ => h21.symm⟩
/-- what prune leaves at the node q -/
def pr_Q (h0 : ia_H) (F : Nat → Nat → Int32) (S : Nat → Int32) (P : Nat → Nat) (q : Nat) (rv : Option Value) (h' : ia_H) : Prop := rv = some (.int (nI (pn F P q 16))) ∧ ∃ F', rm_X h0 h' F' S ∧ (∀ j, 1 ≤ j → j ≤ 16 → (pw F P q j → F' 2 j = 0) ∧ (¬ pw F P q j → F' 2 j = F 2 j)) ∧ (F' 4 q = 0 ∧ F' 5 q = 0 ∧ F' 6 q = 0 ∧ F' 8 q = 0 ∧ F' 9 q = 0) ∧ ∀ k j, k ≠ 14 → (k ≠ 2 ∨ j = 0 ∨ 17 ≤ j) → ((k ≠ 4 ∧ k ≠ 5 ∧ k ≠ 6 ∧ k ≠ 8 ∧ k ≠ 9) ∨ j ≠ q) → F' k j = F k j
theorem rm_prune {G : ia_G} {h0 : ia_H} {d : Nat} {x : Int32} {F : Nat → Nat → Int32} {S : Nat → Int32} {P r : Nat → Nat} (hd : 1 ≤ d) (hm : rm h0 F S) (ht : tr F P r) (hB : ∀ j, 1 ≤ j → j ≤ 16 → F 2 j = 0 ∨ F 2 j = 1) : ia_Cn pg G kk_M_prune d 0 0 [.ref 117, .int x] h0 (fun rv h' => ((¬ ∃ n, 1 ≤ n ∧ n ≤ 16 ∧ x = nI n ∧ F 2 n ≠ 0) ∧ rv = some (.int (-1)) ∧ h' = h0) ∨ ∃ n, (1 ≤ n ∧ n ≤ 16 ∧ x = nI n ∧ F 2 n ≠ 0) ∧ ((F 4 n = 0 ∧ rv = some (.int (-2)) ∧ h' = h0) ∨ (F 4 n ≠ 0 ∧ pr_Q h0 F S P n rv h'))) := by
  have hX := hm.X
  refine jd_met (ls := [.ref 117, .int x, .retAddr 0, .retAddr 0]) rfl rfl rfl ?_
  refine ia_go 2 rfl ?_
  refine jd_cV 117 [.int x] [] 0 0 (d' := d - 1) rfl rfl rfl hm.1 rfl rfl (by omega) (by omega) (by omega) (rm_isNode hm) ?_
  rintro rv h1 ⟨rfl, ⟨hno, rfl⟩ | ⟨n, hn1, hn, rfl, hF, rfl⟩⟩
  case inl =>
    refine ia_go 1 rfl ?_
    rw [if_neg (fun z => z rfl)]
    refine ia_go 1 rfl ?_
    exact jd_rv1 rfl rfl rfl trivial (Or.inl ⟨hno, rfl, rfl⟩)
  by_cases h4 : F 4 n = 0
  ·
    refine ia_go 1 rfl ?_
    rw [if_pos (by decide)]
    refine ia_go 1 rfl ?_
    refine ia_getf rfl hm.1 rfl ?_
    refine ia_go 1 rfl ?_
    refine rm_ld (K := 4) rfl hX (by decide) rfl (show n < 17 by omega) (by decide) ?_
    refine ia_go 1 rfl ?_
    rw [if_neg (fun z => z h4)]
    refine ia_go 1 rfl ?_
    exact jd_rv1 rfl rfl rfl trivial (Or.inr ⟨n, ⟨hn1, hn, rfl, hF⟩, Or.inl ⟨h4, rfl, rfl⟩⟩)
  refine ia_go 1 rfl ?_
  rw [if_pos (by decide)]
  refine ia_go 1 rfl ?_
  refine ia_getf rfl hm.1 rfl ?_
  refine ia_go 1 rfl ?_
  refine rm_ld (K := 4) rfl hX (by decide) rfl (show n < 17 by omega) (by decide) ?_
  refine ia_go 1 rfl ?_
  rw [if_pos h4]
  refine ia_go 2 rfl ?_
  dsimp only [ia_s1, ia_s2, ia_cl, ia_D, List.getElem?_cons_zero, List.getElem?_cons_succ, List.set_cons_zero, List.set_cons_succ]
  refine ia_go 2 rfl ?_
  dsimp only [ia_s1, ia_s2, ia_cl, ia_D, List.getElem?_cons_zero, List.getElem?_cons_succ, List.set_cons_zero, List.set_cons_succ]
  refine rm_pr1 (P := P) (q := n) hd ht hn (fun h2 F2 hm2 hw hF2 => ?_) 16 0 (by omega) _ F hX (fun j a b => by omega) (fun _ _ _ => rfl)
  refine ia_go 2 rfl ?_
  dsimp only [ia_s1, ia_s2, ia_cl, ia_D, List.getElem?_cons_zero, List.getElem?_cons_succ, List.set_cons_zero, List.set_cons_succ]
  refine rm_pr2 (F := F2) (F0 := F) (P := P) (fun j a b => by rw [hF2 2 j (by decide)]; exact hB j a b) hw (fun h3 F3 hm3 hi hF3 => ?_) 16 0 (by omega) h2 F2 hm2 (fun j a b => by omega) (fun _ _ _ => rfl)
  refine ia_go 1 rfl ?_
  refine ia_getf rfl hm3.1.1 rfl ?_
  refine ia_go 2 rfl ?_
  refine rm_st (K := 4) rfl hm3 (by decide) rfl (show n < 17 by omega) (by decide) (fun h9 hm3 => ?_)
  refine ia_go 1 rfl ?_
  refine ia_getf rfl hm3.1.1 rfl ?_
  refine ia_go 2 rfl ?_
  refine rm_st (K := 5) rfl hm3 (by decide) rfl (show n < 17 by omega) (by decide) (fun h9 hm3 => ?_)
  refine ia_go 1 rfl ?_
  refine ia_getf rfl hm3.1.1 rfl ?_
  refine ia_go 2 rfl ?_
  refine rm_st (K := 6) rfl hm3 (by decide) rfl (show n < 17 by omega) (by decide) (fun h9 hm3 => ?_)
  refine ia_go 1 rfl ?_
  refine ia_getf rfl hm3.1.1 rfl ?_
  refine ia_go 2 rfl ?_
  refine rm_st (K := 8) rfl hm3 (by decide) rfl (show n < 17 by omega) (by decide) (fun h9 hm3 => ?_)
  refine ia_go 1 rfl ?_
  refine ia_getf rfl hm3.1.1 rfl ?_
  refine ia_go 2 rfl ?_
  refine rm_zst (K := 9) rfl hm3 (by decide) rfl (show n < 17 by omega) (by decide) (Or.inl rfl) (fun h9 hm3 => ?_)
  refine ia_go 1 rfl ?_
  refine jd_rv1 rfl rfl rfl trivial (Or.inr ⟨n, ⟨hn1, hn, rfl, hF⟩, Or.inr ⟨h4, rfl, _, hm3, fun j a b => ?_, ⟨?_, ?_, ?_, ?_, ?_⟩, fun k j k1 k2 k3 => ?_⟩⟩)
  · have e : rm_u (rm_u (rm_u (rm_u (rm_u F3 4 n 0) 5 n 0) 6 n 0) 8 n 0) 9 n 0 2 j = F3 2 j := rfl
    rw [e, ← hF2 2 j (by decide)]
    exact hi j a b
  · simp [rm_u]
  · simp [rm_u]
  · simp [rm_u]
  · simp [rm_u]
  · simp [rm_u]
  · have e : rm_u (rm_u (rm_u (rm_u (rm_u F3 4 n 0) 5 n 0) 6 n 0) 8 n 0) 9 n 0 k j = F3 k j := by
      unfold rm_u
      rcases k3 with ⟨a, b, c, d, e⟩ | h
      · rw [if_neg e, if_neg d, if_neg c, if_neg b, if_neg a]
      · simp [h]
    rw [e, hF3 k j k2]
    exact hF2 k j k1
