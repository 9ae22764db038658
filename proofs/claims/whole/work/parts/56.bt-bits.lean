/-! BITS: the judge's longs hold the 64 states; bit 8 x + z is the state with that x and z. -/
def bz (w : Int64) (k : Nat) : Bool := w.toBitVec.getLsbD k
theorem bz_and (x y : Int64) (k : Nat) : bz (x &&& y) k = (bz x k && bz y k) := by simp [bz]
theorem bz_or (x y : Int64) (k : Nat) : bz (x ||| y) k = (bz x k || bz y k) := by simp [bz]
theorem bz_xor (x y : Int64) (k : Nat) : bz (x ^^^ y) k = (bz x k ^^ bz y k) := by simp [bz]
theorem bz_m1 : ∀ k : Fin 64, bz (-1) k.val = true := by decide +kernel
theorem bz_0 : ∀ k : Fin 64, bz 0 k.val = false := by decide +kernel
theorem bz_not (x : Int64) (k : Fin 64) : bz (x ^^^ (-1)) k.val = !bz x k.val := by
  rw [bz_xor, bz_m1]; cases bz x k.val <;> rfl
def bt_3 (k : Nat) (P : Int64 × Int64 × Int64) : Bool × Bool × Bool := (bz P.1 k, bz P.2.1 k, bz P.2.2 k)
def bt_n (P : Bool × Bool × Bool) : Int32 := (if P.1 then 1 else 0) + (if P.2.1 then 2 else 0) + (if P.2.2 then 4 else 0)
def bt_t (P : Bool × Bool × Bool) : Int32 := if P.1 then 1 else 0
def bt_w (x y z : Bool) : Bool := (!x && (y || z)) || (y && z)
/-- the operators on single bits -/
def bt_o (c : Int32) (P Q : Bool × Bool × Bool) : Bool × Bool × Bool :=
  if c == 43 then (Q.1 ^^ P.1, Q.2.1 ^^ (P.2.1 ^^ (P.1 && Q.1)), Q.2.2 ^^ (P.2.2 ^^ (P.2.1 && Q.2.1 || (P.1 && Q.1) && (P.2.1 ^^ Q.2.1))))
  else if c == 45 then (Q.1 ^^ P.1, Q.2.1 ^^ (P.2.1 ^^ bt_w P.1 Q.1 false), Q.2.2 ^^ (P.2.2 ^^ bt_w P.2.1 Q.2.1 (bt_w P.1 Q.1 false)))
  else if c == 42 then (Q.1 && P.1, (P.2.1 && Q.1) ^^ (P.1 && Q.2.1), ((P.2.2 && Q.1) ^^ (P.2.1 && Q.2.1) ^^ (P.1 && Q.2.2)) ^^ ((P.2.1 && Q.1) && (P.1 && Q.2.1)))
  else if c == 61 then (!((P.1 ^^ Q.1) || (P.2.1 ^^ Q.2.1) || (P.2.2 ^^ Q.2.2)), Q.2.1, Q.2.2)
  else if c == 60 then (bt_w P.2.2 Q.2.2 (bt_w P.2.1 Q.2.1 (bt_w P.1 Q.1 false)), Q.2.1, Q.2.2)
  else if c == 38 then (Q.1 && P.1, Q.2.1, Q.2.2)
  else if c == 124 then (Q.1 || P.1, Q.2.1, Q.2.2)
  else (Q.1 || !P.1, Q.2.1, Q.2.2)
theorem bt_w_eq (x y z : Int64) (k : Fin 64) : bz (jg_bw x y z) k.val = bt_w (bz x k.val) (bz y k.val) (bz z k.val) := by
  unfold jg_bw bt_w
  rw [bz_or, bz_and, bz_and, bz_or, bz_not]
theorem bt_o_eq {c : Int32} (hc : c = 43 ∨ c = 45 ∨ c = 42 ∨ c = 61 ∨ c = 60 ∨ c = 38 ∨ c = 124 ∨ c = 62) (P Q : Int64 × Int64 × Int64) (k : Fin 64) : bt_3 k.val (jg_op c P Q) = bt_o c (bt_3 k.val P) (bt_3 k.val Q) := by
  rcases hc with rfl | rfl | rfl | rfl | rfl | rfl | rfl | rfl
  · show (bz (Q.1 ^^^ P.1) _, bz (Q.2.1 ^^^ (P.2.1 ^^^ (P.1 &&& Q.1))) _, bz (Q.2.2 ^^^ (P.2.2 ^^^ (P.2.1 &&& Q.2.1 ||| (P.1 &&& Q.1) &&& (P.2.1 ^^^ Q.2.1)))) _) = _
    simp only [bz_xor, bz_and, bz_or]; rfl
  · show (bz (Q.1 ^^^ P.1) _, bz (Q.2.1 ^^^ (P.2.1 ^^^ jg_bw P.1 Q.1 0)) _, bz (Q.2.2 ^^^ (P.2.2 ^^^ jg_bw P.2.1 Q.2.1 (jg_bw P.1 Q.1 0))) _) = _
    simp only [bz_xor, bt_w_eq, bz_0]; rfl
  · show (bz (Q.1 &&& P.1) _, bz ((P.2.1 &&& Q.1) ^^^ (P.1 &&& Q.2.1)) _, bz ((P.2.2 &&& Q.1) ^^^ (P.2.1 &&& Q.2.1) ^^^ (P.1 &&& Q.2.2) ^^^ ((P.2.1 &&& Q.1) &&& (P.1 &&& Q.2.1))) _) = _
    simp only [bz_xor, bz_and, bz_or]; rfl
  · show (bz (_ ^^^ (-1)) _, bz _ _, bz _ _) = _
    rw [bz_not]
    simp only [bz_xor, bz_or]; rfl
  · show (bz (jg_bw P.2.2 Q.2.2 (jg_bw P.2.1 Q.2.1 (jg_bw P.1 Q.1 0))) _, bz _ _, bz _ _) = _
    simp only [bt_w_eq, bz_0]; rfl
  · show (bz (Q.1 &&& P.1) _, bz _ _, bz _ _) = _
    simp only [bz_and]; rfl
  · show (bz (Q.1 ||| P.1) _, bz _ _, bz _ _) = _
    simp only [bz_or]; rfl
  · show (bz (Q.1 ||| (P.1 ^^^ (-1))) _, bz _ _, bz _ _) = _
    rw [bz_or, bz_not]; rfl
/-- ... and what they do to numbers -/
theorem bt_num : ∀ p1 p2 p4 q1 q2 q4 : Bool, bt_n (bt_o 43 (p1, p2, p4) (q1, q2, q4)) = tx_j 43 (bt_n (p1, p2, p4)) (bt_n (q1, q2, q4)) ∧ bt_n (bt_o 45 (p1, p2, p4) (q1, q2, q4)) = tx_j 45 (bt_n (p1, p2, p4)) (bt_n (q1, q2, q4)) ∧ bt_n (bt_o 42 (p1, p2, p4) (q1, q2, q4)) = tx_j 42 (bt_n (p1, p2, p4)) (bt_n (q1, q2, q4)) ∧ bt_t (bt_o 61 (p1, p2, p4) (q1, q2, q4)) = tx_j 61 (bt_n (p1, p2, p4)) (bt_n (q1, q2, q4)) ∧ bt_t (bt_o 60 (p1, p2, p4) (q1, q2, q4)) = tx_j 60 (bt_n (p1, p2, p4)) (bt_n (q1, q2, q4)) := by decide +kernel
theorem bt_tru : ∀ p1 p2 p4 q1 q2 q4 : Bool, bt_t (bt_o 38 (p1, p2, p4) (q1, q2, q4)) = tx_j 38 (bt_t (p1, p2, p4)) (bt_t (q1, q2, q4)) ∧ bt_t (bt_o 124 (p1, p2, p4) (q1, q2, q4)) = tx_j 124 (bt_t (p1, p2, p4)) (bt_t (q1, q2, q4)) ∧ bt_t (bt_o 62 (p1, p2, p4) (q1, q2, q4)) = tx_j 62 (bt_t (p1, p2, p4)) (bt_t (q1, q2, q4)) := by decide +kernel
/-- what a character is worth in a state -/
def tx_g (a b c x z ch : Int32) : Int32 := if ch == 97 then a else if ch == 98 then b else if ch == 99 then c else if ch == 120 then x else if ch == 122 then z else ch - 48
def bt_R (k : Nat) : List (Int64 × Int64 × Int64) → List Bool → List Int32 → Prop
  | [], [], [] => True
  | P :: L, ty :: tys, v :: V => v = (if ty then bt_t (bt_3 k P) else bt_n (bt_3 k P)) ∧ bt_R k L tys V
  | _, _, _ => False
theorem bt_jn : ∀ (v : Fin 8) (k : Fin 64), bt_n (bt_3 k.val (jg_n (nI v.val))) = nI v.val := by decide +kernel
theorem bt_x : ∀ (x z : Fin 8), bt_n (bt_3 (8 * x.val + z.val) (-71777214294589696, -281470681808896, -4294967296)) = nI x.val := by decide +kernel
theorem bt_z : ∀ (x z : Fin 8), bt_n (bt_3 (8 * x.val + z.val) (-6148914691236517206, -3689348814741910324, -1085102592571150096)) = nI z.val := by decide +kernel
theorem bt_dig : ∀ k : Fin 64, bt_n (bt_3 k.val (jg_n (48 - 48))) = 48 - 48 ∧ bt_n (bt_3 k.val (jg_n (49 - 48))) = 49 - 48 ∧ bt_n (bt_3 k.val (jg_n (50 - 48))) = 50 - 48 ∧ bt_n (bt_3 k.val (jg_n (51 - 48))) = 51 - 48 ∧ bt_n (bt_3 k.val (jg_n (52 - 48))) = 52 - 48 ∧ bt_n (bt_3 k.val (jg_n (53 - 48))) = 53 - 48 ∧ bt_n (bt_3 k.val (jg_n (54 - 48))) = 54 - 48 ∧ bt_n (bt_3 k.val (jg_n (55 - 48))) = 55 - 48 := by decide +kernel
theorem bt_T : ∀ k : Fin 64, bt_t (bt_3 k.val (-1, 0, 0)) = 1 := by decide +kernel
theorem bt_step {a b c x z : Fin 8} {ch : Int32} {L : List (Int64 × Int64 × Int64)} {tys tys' : List Bool} {V : List Int32} (hs : tx_s ch tys = some tys') (hR : bt_R (8 * x.val + z.val) L tys V) : bt_R (8 * x.val + z.val) (jg_c (nI a.val) (nI b.val) (nI c.val) ch L) tys' (tx_v (tx_g (nI a.val) (nI b.val) (nI c.val) (nI x.val) (nI z.val)) ch V) := by
  have hk : 8 * x.val + z.val < 64 := by omega
  rcases tx_cs hs with ⟨hc, -⟩ | ⟨rfl, h1, -⟩ | ⟨hc, h1, -⟩
  · obtain ⟨d0, d1, d2, d3, d4, d5, d6, d7⟩ := bt_dig ⟨8 * x.val + z.val, hk⟩
    rcases hc with rfl | rfl | rfl | rfl | rfl | rfl | rfl | rfl | rfl | rfl | rfl | rfl | rfl | rfl <;> cases hs
    · exact ⟨(bt_jn a ⟨_, hk⟩).symm, hR⟩
    · exact ⟨(bt_jn b ⟨_, hk⟩).symm, hR⟩
    · exact ⟨(bt_jn c ⟨_, hk⟩).symm, hR⟩
    · exact ⟨(bt_x x z).symm, hR⟩
    · exact ⟨(bt_z x z).symm, hR⟩
    · exact ⟨(bt_T ⟨_, hk⟩).symm, hR⟩
    · exact ⟨d0.symm, hR⟩
    · exact ⟨d1.symm, hR⟩
    · exact ⟨d2.symm, hR⟩
    · exact ⟨d3.symm, hR⟩
    · exact ⟨d4.symm, hR⟩
    · exact ⟨d5.symm, hR⟩
    · exact ⟨d6.symm, hR⟩
    · exact ⟨d7.symm, hR⟩
  · match tys, L, V, hs, hR with
    | true :: tys, P :: L, v :: V, hs, hR =>
      cases hs
      refine ⟨?_, hR.2⟩
      have h2 : v = bt_t (bt_3 (8 * x.val + z.val) P) := hR.1
      show 1 - v = bt_t (bz (P.1 ^^^ (-1)) (8 * x.val + z.val), _, _)
      rw [h2, bz_not P.1 ⟨_, hk⟩]
      show 1 - bt_t (bz P.1 (8 * x.val + z.val), _, _) = _
      cases bz P.1 (8 * x.val + z.val) <;> simp [bt_t]
  · have hjc : ∀ P Q L', jg_c (nI a.val) (nI b.val) (nI c.val) ch (P :: Q :: L') = jg_op ch P Q :: L' := by
      intro P Q L'
      rcases hc with rfl | rfl | rfl | rfl | rfl | rfl | rfl | rfl <;> rfl
    have htv : ∀ (g : Int32 → Int32) v w V', tx_v g ch (v :: w :: V') = tx_j ch v w :: V' := by
      intro g v w V'
      rcases hc with rfl | rfl | rfl | rfl | rfl | rfl | rfl | rfl <;> rfl
    rcases tys with _ | ⟨t1, _ | ⟨t2, tys⟩⟩
    · simp at h1
    · simp at h1
    rcases L with _ | ⟨P, L⟩
    · cases V <;> exact hR.elim
    rcases V with _ | ⟨v, V⟩
    · exact hR.elim
    obtain ⟨r1, hR⟩ := hR
    rcases L with _ | ⟨Q, L⟩
    · cases V <;> exact hR.elim
    rcases V with _ | ⟨w, V⟩
    · exact hR.elim
    obtain ⟨r2, r3⟩ := hR
    rw [hjc, htv]
    have ho := bt_o_eq hc P Q ⟨_, hk⟩
    dsimp only at ho
    rcases hP : bt_3 (8 * x.val + z.val) P with ⟨p1, p2, p4⟩
    rcases hQ : bt_3 (8 * x.val + z.val) Q with ⟨q1, q2, q4⟩
    rw [hP, hQ] at ho
    rw [hP] at r1
    rw [hQ] at r2
    obtain ⟨n1, n2, n3, n4, n5⟩ := bt_num p1 p2 p4 q1 q2 q4
    obtain ⟨m1, m2, m3⟩ := bt_tru p1 p2 p4 q1 q2 q4
    rcases hc with rfl | rfl | rfl | rfl | rfl | rfl | rfl | rfl
    all_goals (cases t1 <;> cases t2 <;> first | (cases hs; done) | skip)
    all_goals (cases hs; refine ⟨?_, r3⟩; rw [ho, r1, r2])
    · exact n1.symm
    · exact n2.symm
    · exact n3.symm
    · exact n4.symm
    · exact n5.symm
    · exact m1.symm
    · exact m2.symm
    · exact m3.symm
theorem bt_all {a b c x z : Fin 8} : ∀ (t : List Int32) (tys : List Bool), tx_f t [] = some tys → bt_R (8 * x.val + z.val) (jg_e (nI a.val) (nI b.val) (nI c.val) t) tys (tx_e (tx_g (nI a.val) (nI b.val) (nI c.val) (nI x.val) (nI z.val)) t []) := by
  intro t
  induction t with
  | nil => intro tys h; cases h; exact trivial
  | cons ch t ih =>
    intro tys h
    have h1 : (tx_f t []).bind (tx_s ch) = some tys := h
    cases hu : tx_f t [] with
    | none => rw [hu] at h1; cases h1
    | some y =>
      rw [hu] at h1
      exact bt_step h1 (ih y hu)
/-- a formula's truth, a term's number -/
theorem bt_F {a b c x z : Fin 8} {t : List Int32} (h : tx_F t) : tx_x (tx_g (nI a.val) (nI b.val) (nI c.val) (nI x.val) (nI z.val)) t = if bz (jg_v (nI a.val) (nI b.val) (nI c.val) t).1 (8 * x.val + z.val) then 1 else 0 := by
  have h1 := bt_all (a := a) (b := b) (c := c) (x := x) (z := z) t [true] (h [])
  rw [jg_single (h [])] at h1
  unfold tx_x
  match he : tx_e (tx_g (nI a.val) (nI b.val) (nI c.val) (nI x.val) (nI z.val)) t [], h1 with
  | [v], h1 => exact h1.1
theorem bt_N {a b c x z : Fin 8} {t : List Int32} (h : tx_T t) : tx_x (tx_g (nI a.val) (nI b.val) (nI c.val) (nI x.val) (nI z.val)) t = bt_n (bt_3 (8 * x.val + z.val) (jg_v (nI a.val) (nI b.val) (nI c.val) t)) := by
  have h1 := bt_all (a := a) (b := b) (c := c) (x := x) (z := z) t [false] (h [])
  rw [jg_single (h [])] at h1
  unfold tx_x
  match he : tx_e (tx_g (nI a.val) (nI b.val) (nI c.val) (nI x.val) (nI z.val)) t [], h1 with
  | [v], h1 => exact h1.1
