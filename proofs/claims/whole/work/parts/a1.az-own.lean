/-! THE STATE KEEPS ITSELF: type, hold, begin, prove. -/
theorem ai_type {A : aS} {w : Int64} {n : Int32} (h : AI A) : AI (sp_type A w n).1 := by
  unfold sp_type
  by_cases c : ∃ N, n = nI N ∧ 1 ≤ N ∧ N ≤ 8 ∧ ∀ i, i < N → ty_ok (ty_c w i)
  · rw [ch_pos c]
    obtain ⟨N, rfl, h1, h2, h3⟩ := c
    rw [nI_clamp (by omega)]
    split
    · refine ⟨⟨fun c hc => ?_, ?_⟩, h.2⟩
      rotate_left
      · show (aB A ++ ty_l w N).length ≤ 60
        rw [List.length_append, ty_l_len]; assumption
      rcases List.mem_append.mp hc with hc | hc
      · exact h.1.1 c hc
      · unfold ty_l at hc
        obtain ⟨j, hj, rfl⟩ := List.mem_map.mp hc
        have := List.mem_range.mp hj
        exact h3 _ (by omega)
    · exact h
  · rw [ch_neg c]; exact h
theorem tx_w_z : ∀ (t : List Int32) (m n : Nat), tx_w m n t = none → ¬ 122 ∈ t := by
  intro t
  induction t with
  | nil => intro m n _ h; cases h
  | cons c t ih =>
    intro m n h hm
    rcases List.mem_cons.mp hm with e | hm
    · subst e
      revert h
      unfold tx_w
      split
      · rw [if_neg (by decide), if_neg (by decide)]; intro h; cases h
      · split
        · intro h; cases h
        · rw [if_neg (by decide), if_neg (by decide), if_neg (by decide), if_neg (by decide)]; intro h; cases h
    · unfold tx_w at h
      split at h
      · split at h
        · exact ih _ _ (tx_map1 h) hm
        · split at h
          · exact ih _ _ (tx_map1 h) hm
          · cases h
      · split at h
        · cases h
        · split at h
          · exact ih _ _ (tx_map1 h) hm
          · split at h
            · exact ih _ _ (tx_map1 h) hm
            · split at h
              · exact ih _ _ (tx_map1 h) hm
              · split at h
                · exact ih _ _ (tx_map1 h) hm
                · cases h
theorem ai_hold {A : aS} {s : Int32} (h : AI A) : AI (sp_hold A s).1 := by
  unfold sp_hold
  by_cases c : ∃ i, i < 4 ∧ s = nI i
  · rw [ch_pos c]
    obtain ⟨i, hi, rfl⟩ := c
    rw [nI_clamp (by omega)]
    obtain ⟨h1, h2, h3, h4, h5⟩ := h
    cases hx : tx_k i (aB A) with
    | some q => exact ⟨⟨fun c hc => (by cases hc), Nat.zero_le _⟩, h2, h3, h4, h5⟩
    | none =>
      unfold tx_k at hx
      refine ⟨⟨fun c hc => (by cases hc), Nat.zero_le _⟩, fun j hj => ?_, ?_, ⟨?_, fun j hj => ?_, h4.2.2⟩, h5⟩
      · show tx_F (if j = i then aB A else aQ A j)
        by_cases hji : j = i
        · rw [if_pos hji]
          rw [if_neg (by omega), if_neg (by omega)] at hx
          exact tx_w_F hx
        · rw [if_neg hji]; exact h2 j hj
      · show tx_T (if 3 = i then aB A else aQ A 3)
        by_cases hji : 3 = i
        · rw [if_pos hji]
          rw [if_pos hji.symm, if_pos hji.symm] at hx
          exact tx_w_T hx
        · rw [if_neg hji]; exact h3
      · show ¬ 122 ∈ (if 3 = i then aB A else aQ A 3)
        by_cases hji : 3 = i
        · rw [if_pos hji]
          exact tx_w_z _ _ _ hx
        · rw [if_neg hji]; exact h4.1
      · show (if j = i then aB A else aQ A j).length ≤ 60
        by_cases hji : j = i
        · rw [if_pos hji]; exact h1.2
        · rw [if_neg hji]; exact h4.2.1 j hj
  · rw [ch_neg c]; exact h
theorem AN_nw {N : Nat → nN} {n P r : Nat} {fr : Int32} {p q : List Int32} (hx : N n = nwN fr P r p q) (f0 : 0 ≤ fr) (f7 : fr ≤ 7) (hP : (P = 0 ∧ r = 0) ∨ ((1 ≤ P ∧ P ≤ 16 ∧ zE (N P) = true) ∧ r = zR (N P) + 1)) (hp : tx_F p ∧ p.length ≤ 120) (hq : tx_F q ∧ q.length ≤ 120) : AN N n := by
  unfold AN
  rw [hx]
  intro _
  refine ⟨⟨f0, f7⟩, Nat.zero_le _, hP, ⟨fun z => absurd z (by show ¬ 3 ≤ 0; omega), fun _ => rfl⟩, ⟨fun z => absurd z (by show ¬ (0 = 3 ∨ 0 = 4); omega), fun _ => rfl⟩, fun w hw => ?_, fun z => absurd z (by show ¬ 0 = 2; omega), fun z => absurd z (by show ¬ (0 = 4 ∨ 0 = 5); omega), fun z => by cases z⟩
  show tx_F (if w = 0 then p else q) ∧ (if w = 0 then p else q).length ≤ 120
  split
  · exact hp
  · exact hq
theorem ai_begin {A : aS} {fr : Int32} (h : AI A) : AI (sp_begin A fr).1 := by
  unfold sp_begin
  by_cases c : 0 ≤ fr ∧ fr ≤ 7
  · rw [ch_pos c]
    obtain ⟨h1, h2, h3, h4, h5⟩ := h
    refine ⟨h1, h2, h3, h4, fun n n1 n2 => ?_⟩
    by_cases hn : n = 1
    · subst hn
      exact AN_nw (show bgN (aN A) fr (aQ A 0) (aQ A 1) 1 = nwN fr 0 0 (aQ A 0) (aQ A 1) from if_pos rfl) c.1 c.2 (Or.inl ⟨rfl, rfl⟩) ⟨h2 0 (by omega), by have := h4.2.1 0 (by omega); omega⟩ ⟨h2 1 (by omega), by have := h4.2.1 1 (by omega); omega⟩
    · intro e
      rw [show aN (aB A, aQ A, bgN (aN A) fr (aQ A 0) (aQ A 1), A.2.2.2) n = (false, (aN A n).2) from if_neg hn] at e
      cases e
  · rw [ch_neg c]; exact h
theorem AN_other {N N' : Nat → nN} {m : Nat} (h : AN N m) (hm : N' m = N m) (hE : ∀ k, (k = zP (N m) ∨ k = zK (N m) ∨ k = zM (N m)) → 1 ≤ k → k ≤ 16 → zE (N k) = true → zE (N' k) = true ∧ zP (N' k) = zP (N k) ∧ zR (N' k) = zR (N k)) : AN N' m := by
  unfold AN
  rw [hm]
  intro e
  obtain ⟨a1, a2, a3, ⟨k1, k1'⟩, ⟨k2, k2'⟩, rest⟩ := h e
  refine ⟨a1, a2, ?_, ⟨fun z => ?_, k1'⟩, ⟨fun z => ?_, k2'⟩, rest⟩
  · rcases a3 with a3 | ⟨⟨b1, b2, b3⟩, b4⟩
    · exact Or.inl a3
    · have q := hE _ (Or.inl rfl) b1 b2 b3
      exact Or.inr ⟨⟨b1, b2, q.1⟩, by rw [q.2.2]; exact b4⟩
  · obtain ⟨⟨b1, b2, b3⟩, b4⟩ := k1 z
    have q := hE _ (Or.inr (Or.inl rfl)) b1 b2 b3
    exact ⟨⟨b1, b2, q.1⟩, q.2.1.trans b4⟩
  · obtain ⟨⟨b1, b2, b3⟩, b4, b5⟩ := k2 z
    have q := hE _ (Or.inr (Or.inr rfl)) b1 b2 b3
    exact ⟨⟨b1, b2, q.1⟩, q.2.1.trans b4, b5⟩
/-- a node that is proved -/
def pvN (y : nN) : nN := (zE y, zF y, zP y, zR y, zL y, zK y, zM y, zV y, zG y, true, zT y)
theorem AN_pv {N : Nat → nN} {n : Nat} (hA : ∀ m, 1 ≤ m → m ≤ 16 → AN N m) (hl : zL (N n) ≠ 0) (hv : vaL (cL (N n))) : ∀ m, 1 ≤ m → m ≤ 16 → AN (upN N n (pvN (N n))) m := by
  have hE : ∀ k, zE (upN N n (pvN (N n)) k) = zE (N k) ∧ zP (upN N n (pvN (N n)) k) = zP (N k) ∧ zR (upN N n (pvN (N n)) k) = zR (N k) := by
    intro k
    by_cases hk : k = n
    · rw [hk, upN_same]; exact ⟨rfl, rfl, rfl⟩
    · rw [upN_ne hk]; exact ⟨rfl, rfl, rfl⟩
  intro m m1 m2
  by_cases hm : m = n
  · subst hm
    unfold AN
    rw [upN_same]
    intro e
    obtain ⟨a1, a2, a3, ⟨k1, k1'⟩, ⟨k2, k2'⟩, a6, a7, a8, -⟩ := hA m m1 m2 e
    refine ⟨a1, a2, ?_, ⟨fun z => ?_, k1'⟩, ⟨fun z => ?_, k2'⟩, a6, a7, a8, fun _ => ⟨hl, hv⟩⟩
    · rcases a3 with a3 | ⟨⟨b1, b2, b3⟩, b4⟩
      · exact Or.inl a3
      · exact Or.inr ⟨⟨b1, b2, (hE _).1.trans b3⟩, by show zR (N m) = zR (upN N m (pvN (N m)) (zP (N m))) + 1; rw [(hE _).2.2]; exact b4⟩
    · obtain ⟨⟨b1, b2, b3⟩, b4⟩ := k1 z
      exact ⟨⟨b1, b2, (hE _).1.trans b3⟩, (hE _).2.1.trans b4⟩
    · obtain ⟨⟨b1, b2, b3⟩, b4, b5⟩ := k2 z
      exact ⟨⟨b1, b2, (hE _).1.trans b3⟩, (hE _).2.1.trans b4, b5⟩
  · exact AN_other (hA m m1 m2) (upN_ne hm) (fun k _ _ _ e => ⟨(hE k).1.trans e, (hE k).2⟩)
theorem ai_prove {A : aS} {x : Int32} (h : AI A) : AI (sp_prove A x).1 := by
  unfold sp_prove
  by_cases c : nod (aN A) x = 0
  · rw [if_pos c]; exact h
  · rw [if_neg c]
    by_cases l : zL (aN A (nod (aN A) x)) = 0
    · rw [if_pos l]; exact h
    · rw [if_neg l]
      obtain ⟨h1, h2, h3, h4, h5⟩ := h
      by_cases v : vaL (cL (aN A (nod (aN A) x)))
      · rw [ch_pos v]
        exact ⟨h1, h2, h3, h4, AN_pv h5 l v⟩
      · rw [ch_neg v]
        exact ⟨h1, h2, h3, h4, h5⟩
/-! prune -/
theorem az_rk {N : Nat → nN} (hA : ∀ n, 1 ≤ n → n ≤ 16 → AN N n) : ∀ (k n : Nat), 1 ≤ n → n ≤ 16 → zE (N n) = true → 1 ≤ an (pP N) k n → zR (N (an (pP N) k n)) + k = zR (N n) := by
  intro k
  induction k with
  | zero => intro n _ _ _ _; rfl
  | succ k ih =>
    intro n h1 h2 h3 h4
    have h4' : 1 ≤ an (pP N) k (pP N n) := h4
    show zR (N (an (pP N) k (pP N n))) + (k + 1) = zR (N n)
    rcases az_up hA h1 h2 h3 with z | ⟨z1, z2, z3⟩
    · rw [z, an0 rfl] at h4'; omega
    · have := ih (pP N n) z1 z2 z3 h4'
      obtain ⟨-, -, h5, -⟩ := hA n h1 h2 h3
      rw [pP_n h1] at z1 this ⊢
      rcases h5 with h5 | h5
      · omega
      · omega
theorem prN_at {N : Nat → nN} {q : Nat} : prN N q q = (zE (N q), zF (N q), zP (N q), zR (N q), 0, 0, 0, 0, [], false, zT (N q)) := if_pos rfl
theorem prN_go {N : Nat → nN} {q m : Nat} (hm : m ≠ q) (h : pwN N q m) : prN N q m = (false, (N m).2) := (if_neg hm).trans (ch_pos h)
theorem prN_stay {N : Nat → nN} {q m : Nat} (hm : m ≠ q) (h : ¬ pwN N q m) : prN N q m = N m := (if_neg hm).trans (ch_neg h)
theorem AN_pr {N : Nat → nN} {q : Nat} (hA : ∀ m, 1 ≤ m → m ≤ 16 → AN N m) (q1 : 1 ≤ q) (q2 : q ≤ 16) (q3 : zE (N q) = true) : ∀ m, 1 ≤ m → m ≤ 16 → AN (prN N q) m := by
  have hE : ∀ k, ¬ pwN N q k → zE (prN N q k) = zE (N k) ∧ zP (prN N q k) = zP (N k) ∧ zR (prN N q k) = zR (N k) := by
    intro k hk
    by_cases hq : k = q
    · rw [hq, prN_at]; exact ⟨rfl, rfl, rfl⟩
    · rw [prN_stay hq hk]; exact ⟨rfl, rfl, rfl⟩
  intro m m1 m2
  by_cases hm : m = q
  · subst hm
    unfold AN
    rw [prN_at]
    intro e
    obtain ⟨a1, -, a3, -, -, a6, -⟩ := hA m m1 m2 e
    refine ⟨a1, Nat.zero_le _, ?_, ⟨fun z => absurd z (by show ¬ 3 ≤ 0; omega), fun _ => rfl⟩, ⟨fun z => absurd z (by show ¬ (0 = 3 ∨ 0 = 4); omega), fun _ => rfl⟩, fun w hw => a6 w (by have h2 : w < 2 + 0 := hw; omega), fun z => absurd z (by show ¬ 0 = 2; omega), fun z => absurd z (by show ¬ (0 = 4 ∨ 0 = 5); omega), fun z => by cases z⟩
    rcases a3 with a3 | ⟨⟨b1, b2, b3⟩, b4⟩
    · exact Or.inl a3
    · have np : ¬ pwN N m (zP (N m)) := by
        rintro ⟨-, k, hk1, hk2⟩
        have u := az_up hA b1 b2 b3
        rcases u with u | ⟨u1, u2, u3⟩
        · rw [u, an0 rfl] at hk1; omega
        · have r1 := az_rk hA k _ u1 u2 u3 hk1
          have r2 := az_rk hA 1 _ b1 b2 b3 u1
          rw [hk2] at r1
          have r3 : zR (N (pP N (zP (N m)))) + 1 = zR (N (zP (N m))) := r2
          omega
      have z := hE _ np
      exact Or.inr ⟨⟨b1, b2, z.1.trans b3⟩, by show zR (N m) = zR (prN N m (zP (N m))) + 1; rw [z.2.2]; exact b4⟩
  · by_cases hp : pwN N q m
    · intro e
      rw [prN_go hm hp] at e
      cases e
    · by_cases e0 : zE (N m) = true
      · refine AN_other (hA m m1 m2) (prN_stay hm hp) (fun k hk k1 k2 k3 => ?_)
        have nk : ¬ pwN N q k := by
          intro z
          obtain ⟨-, -, a3, ⟨c1, c1'⟩, ⟨c2, c2'⟩, -⟩ := hA m m1 m2 e0
          rcases hk with hk | hk | hk
          · -- the parent
            refine hp ⟨e0, ?_⟩
            rw [pP_n m1, ← hk]
            exact (io_s k1).mpr (Or.inr z.2)
          · have l3 : 3 ≤ zL (N m) := by
              rcases Nat.lt_or_ge (zL (N m)) 3 with y | y
              · have := c1' y; omega
              · exact y
            have pk : pP N k = m := by rw [pP_n k1, hk]; exact (c1 l3).2
            have z2 := z.2
            rw [pk] at z2
            rcases (io_s m1).mp z2 with y | y
            · exact hm y
            · exact hp ⟨e0, y⟩
          · have l3 : zL (N m) = 3 ∨ zL (N m) = 4 := by
              by_cases y : zL (N m) = 3 ∨ zL (N m) = 4
              · exact y
              · have := c2' y; omega
            have pk : pP N k = m := by rw [pP_n k1, hk]; exact (c2 l3).2.1
            have z2 := z.2
            rw [pk] at z2
            rcases (io_s m1).mp z2 with y | y
            · exact hm y
            · exact hp ⟨e0, y⟩
        have z := hE k nk
        exact ⟨z.1.trans k3, z.2⟩
      · intro e
        rw [prN_stay hm hp] at e
        exact absurd e e0
theorem ai_prune {A : aS} {x : Int32} (h : AI A) : AI (sp_prune A x).1 := by
  unfold sp_prune
  by_cases c : nod (aN A) x = 0
  · rw [if_pos c]; exact h
  · rw [if_neg c]
    by_cases l : zL (aN A (nod (aN A) x)) = 0
    · rw [if_pos l]; exact h
    · rw [if_neg l]
      obtain ⟨h1, h2, h3, h4, h5⟩ := h
      obtain ⟨⟨n1, n2⟩, -, n3⟩ := nod_in c
      exact ⟨h1, h2, h3, h4, AN_pr h5 n1 n2 n3⟩
theorem ai_run {A : aS} {a b c x : Int32} (h : AI A) : AI (sp_run A a b c x).1 := by
  unfold sp_run
  by_cases i : ispN (aN A)
  · rw [ch_pos i]
    by_cases f : ∃ N, N ≤ 1000 ∧ x = nI N
    · rw [ch_pos f]
      obtain ⟨h1, h2, h3, h4, h5⟩ := h
      refine ⟨h1, h2, h3, ⟨h4.1, h4.2.1, h4.2.2.1, ?_⟩, h5⟩
      show rnW (aN A) _ 3 = 0 ∨ rnW (aN A) _ 3 = 1
      unfold rnW
      rw [if_neg (by omega)]
      split
      · exact Or.inr rfl
      · exact Or.inl rfl
    · rw [ch_neg f]; exact h
  · rw [ch_neg i]; exact h
