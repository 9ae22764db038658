/-! THE JUDGE, 4: the pile as a list, the top first. -/
def jg_n (v : Int32) : Int64 × Int64 × Int64 := (-(v &&& 1).toInt64, -(v >>> ((1 : Int32) &&& 31) &&& 1).toInt64, -(v >>> ((2 : Int32) &&& 31) &&& 1).toInt64)
def jg_c (a b c ch : Int32) (L : List (Int64 × Int64 × Int64)) : List (Int64 × Int64 × Int64) :=
  if ch == 97 then jg_n a :: L else if ch == 98 then jg_n b :: L else if ch == 99 then jg_n c :: L
  else if ch == 120 then (-71777214294589696, -281470681808896, -4294967296) :: L
  else if ch == 122 then (-6148914691236517206, -3689348814741910324, -1085102592571150096) :: L
  else if ch == 84 then (-1, 0, 0) :: L
  else if ch == 33 then (match L with
    | P :: t => (P.1 ^^^ (-1), P.2.1, P.2.2) :: t
    | [] => [])
  else if tx_n ch then jg_n (ch - 48) :: L
  else (match L with
    | P :: Q :: t => jg_op ch P Q :: t
    | l => l)
def jg_e (a b c : Int32) : List Int32 → List (Int64 × Int64 × Int64)
  | [] => []
  | ch :: t => jg_c a b c ch (jg_e a b c t)
def jg_R (h0 h : ia_H) (L : List (Int64 × Int64 × Int64)) : Prop := ∃ F1 F2 F3 : Nat → Int64, jg_X h0 h F1 F2 F3 L.length ∧ ∀ i q, L[i]? = some q → (F1 (L.length - 1 - i), F2 (L.length - 1 - i), F3 (L.length - 1 - i)) = q
theorem jg_R.push {h0 h h' : ia_H} {L : List (Int64 × Int64 × Int64)} {F1 F2 F3 : Nat → Int64} {x y z : Int64} (hX : jg_X h0 h F1 F2 F3 L.length) (hL : ∀ i q, L[i]? = some q → (F1 (L.length - 1 - i), F2 (L.length - 1 - i), F3 (L.length - 1 - i)) = q) (hn : jg_X h h' (vf_upd F1 L.length x) (vf_upd F2 L.length y) (vf_upd F3 L.length z) (L.length + 1)) : jg_R h0 h' ((x, y, z) :: L) := by
  refine ⟨_, _, _, hX.tr hn, fun i q hq => ?_⟩
  cases i with
  | zero =>
    cases hq
    show (vf_upd F1 L.length x (L.length + 1 - 1 - 0), vf_upd F2 L.length y (L.length + 1 - 1 - 0), vf_upd F3 L.length z (L.length + 1 - 1 - 0)) = _
    rw [show L.length + 1 - 1 - 0 = L.length by omega, jg_us, jg_us, jg_us]
  | succ i =>
    have hq : L[i]? = some q := hq
    have hi : i < L.length := (List.getElem?_eq_some_iff.mp hq).1
    show (vf_upd F1 L.length x (L.length + 1 - 1 - (i + 1)), vf_upd F2 L.length y (L.length + 1 - 1 - (i + 1)), vf_upd F3 L.length z (L.length + 1 - 1 - (i + 1))) = _
    rw [jg_un (by omega), jg_un (by omega), jg_un (by omega), show L.length + 1 - 1 - (i + 1) = L.length - 1 - i by omega]
    exact hL i q hq
theorem jg_R.neg {h0 h h' : ia_H} {P : Int64 × Int64 × Int64} {L : List (Int64 × Int64 × Int64)} {F1 F2 F3 : Nat → Int64} (hX : jg_X h0 h F1 F2 F3 (L.length + 1)) (hL : ∀ i q, (P :: L)[i]? = some q → (F1 (L.length + 1 - 1 - i), F2 (L.length + 1 - 1 - i), F3 (L.length + 1 - 1 - i)) = q) (hn : jg_X h h' (vf_upd F1 (L.length + 1 - 1) (F1 (L.length + 1 - 1) ^^^ (-1))) F2 F3 (L.length + 1)) : jg_R h0 h' ((P.1 ^^^ (-1), P.2.1, P.2.2) :: L) := by
  have h1 := hL 0 P rfl
  refine ⟨_, _, _, hX.tr hn, fun i q hq => ?_⟩
  cases i with
  | zero =>
    cases hq
    show (vf_upd F1 (L.length + 1 - 1) _ (L.length + 1 - 1 - 0), F2 (L.length + 1 - 1 - 0), F3 (L.length + 1 - 1 - 0)) = _
    rw [show L.length + 1 - 1 - 0 = L.length + 1 - 1 by omega] at h1 ⊢
    rw [jg_us, ← h1]
  | succ i =>
    have hq : L[i]? = some q := hq
    have hi : i < L.length := (List.getElem?_eq_some_iff.mp hq).1
    show (vf_upd F1 (L.length + 1 - 1) _ (L.length + 1 - 1 - (i + 1)), F2 (L.length + 1 - 1 - (i + 1)), F3 (L.length + 1 - 1 - (i + 1))) = _
    rw [jg_un (by omega)]
    exact hL (i + 1) q hq
theorem jg_R.op {h0 h h' : ia_H} {c : Int32} {P Q : Int64 × Int64 × Int64} {L : List (Int64 × Int64 × Int64)} {F1 F2 F3 : Nat → Int64} (hX : jg_X h0 h F1 F2 F3 (L.length + 2)) (hL : ∀ i q, (P :: Q :: L)[i]? = some q → (F1 (L.length + 2 - 1 - i), F2 (L.length + 2 - 1 - i), F3 (L.length + 2 - 1 - i)) = q) (hn : jg_P h h' F1 F2 F3 (L.length + 2 - 2) (jg_op c (F1 (L.length + 2 - 1), F2 (L.length + 2 - 1), F3 (L.length + 2 - 1)) (F1 (L.length + 2 - 2), F2 (L.length + 2 - 2), F3 (L.length + 2 - 2))) (L.length + 2 - 1)) : jg_R h0 h' (jg_op c P Q :: L) := by
  have h1 := hL 0 P rfl
  have h2 := hL 1 Q rfl
  obtain ⟨E1, E2, E3, e1, e2, e3⟩ := hn
  rw [show L.length + 2 - 1 - 0 = L.length + 2 - 1 by omega] at h1
  rw [show L.length + 2 - 1 - 1 = L.length + 2 - 2 by omega] at h2
  rw [h1, h2] at e2
  refine ⟨E1, E2, E3, hX.tr e1, fun i q hq => ?_⟩
  cases i with
  | zero =>
    cases hq
    show (E1 (L.length + 1 - 1 - 0), E2 (L.length + 1 - 1 - 0), E3 (L.length + 1 - 1 - 0)) = _
    rw [show L.length + 1 - 1 - 0 = L.length + 2 - 2 by omega]
    exact e2
  | succ i =>
    have hq : L[i]? = some q := hq
    have hi : i < L.length := (List.getElem?_eq_some_iff.mp hq).1
    show (E1 (L.length + 1 - 1 - (i + 1)), E2 (L.length + 1 - 1 - (i + 1)), E3 (L.length + 1 - 1 - (i + 1))) = _
    obtain ⟨g1, g2, g3⟩ := e3 (L.length + 1 - 1 - (i + 1)) (by omega)
    rw [g1, g2, g3]
    have := hL (i + 2) q hq
    rw [show L.length + 2 - 1 - (i + 2) = L.length + 1 - 1 - (i + 1) by omega] at this
    exact this
theorem jg_pnum {G : ia_G} {h0 : ia_H} {d n : Nat} {F1 F2 F3 : Nat → Int64} {v : Int32} (hd : 1 ≤ d) (hj0 : jg h0 F1 F2 F3 n) (hn : n < 120) : ia_Cn pg G kk_J_pileNumber d 0 0 [.ref 72, .int v] h0 (fun rv h => rv = none ∧ jg_X h0 h (vf_upd F1 n (jg_n v).1) (vf_upd F2 n (jg_n v).2.1) (vf_upd F3 n (jg_n v).2.2) (n + 1)) := by
  refine jd_met (ls := [.ref 72, .int v]) rfl rfl rfl ?_
  refine ia_go 20 rfl ?_
  refine jd_cV 72 [.long (jg_n v).1, .long (jg_n v).2.1, .long (jg_n v).2.2] [] 0 0 (d' := d - 1) rfl rfl rfl hj0.1 rfl rfl (by omega) (by omega) (by omega) (jg_pile hj0 hn) ?_
  rintro rv h2 ⟨rfl, hE⟩
  exact jd_rv0 rfl rfl rfl ⟨rfl, hE⟩
