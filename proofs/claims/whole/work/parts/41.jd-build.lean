/-! THE JDK'S METHODS, 2: StringBuilder. -/
/-- a builder b, whose array is the cell v of cap bytes, holds the text t -/
def sx_b (h : ia_H) (b v cap : Nat) (t : List Int32) : Prop := ∃ (m : Int32) (f : Nat → Value), h.1 b = some (.inr (9, [.ref v, .int 0, .int m, .int (nI t.length)])) ∧ h.1 v = some (.inl (.byte, cap, f)) ∧ (∀ j c, t[j]? = some c → f j = .int c) ∧ (∀ j, j < cap → ∃ x : Int32, f j = .int x ∧ fits .byte (.int x) = true) ∧ t.length ≤ cap ∧ cap ≤ 480 ∧ 64 ≤ b ∧ 64 ≤ v ∧ b ≠ v ∧ b < h.2 ∧ v < h.2 ∧ ∀ c ∈ t, 0 ≤ c ∧ c ≤ 127
/-- a String a holds the text t -/
def sx_t (h : ia_H) (a : Nat) (t : List Int32) : Prop := ∃ (v : Nat) (r : List Value) (f : Nat → Value), h.1 a = some (.inr (10, .ref v :: .int 0 :: r)) ∧ h.1 v = some (.inl (.byte, t.length, f)) ∧ (∀ j c, t[j]? = some c → f j = .int c) ∧ (∀ c ∈ t, 0 ≤ c ∧ c ≤ 127) ∧ t.length ≤ 480 ∧ a < h.2 ∧ v < h.2
/-- nothing but S has changed; cells may have come -/
def sx_fr (h h' : ia_H) (S : Nat → Prop) : Prop := h.2 ≤ h'.2 ∧ ∀ q, q < h.2 → ¬ S q → h'.1 q = h.1 q
theorem sx_fr.rf {h : ia_H} {S : Nat → Prop} : sx_fr h h S := ⟨Nat.le_refl _, fun _ _ _ => rfl⟩
theorem sx_fr.tr {h1 h2 h3 : ia_H} {S : Nat → Prop} (a : sx_fr h1 h2 S) (b : sx_fr h2 h3 S) : sx_fr h1 h3 S := ⟨Nat.le_trans a.1 b.1, fun q hq hS => (b.2 q (Nat.lt_of_lt_of_le hq a.1) hS).trans (a.2 q hq hS)⟩
theorem sx_fr.mono {h h' : ia_H} {S S' : Nat → Prop} (a : sx_fr h h' S) (hs : ∀ q, S q → S' q) : sx_fr h h' S' := ⟨a.1, fun q hq hS => a.2 q hq (fun z => hS (hs q z))⟩
theorem jd_subI {a b : Nat} (ha : a < 2 ^ 30) (hb : b < 2 ^ 30) : (nI a - nI b).toInt = (a : Int) - (b : Int) := by
  rw [Int32.toInt_sub, nI_toInt (by omega), nI_toInt (by omega)]
  rw [Int.bmod_def]
  split <;> omega
theorem jd_newlen {G : ia_G} {h : ia_H} {d o g p : Nat} (hd : 1 ≤ d) (ho : o < 1000) (hg : g < 1000) (hp : p < 1000) (h0 : 0 < p) : ia_Cn pg G kk_as_newLength d 0 0 [.int (nI o), .int (nI g), .int (nI p)] h (fun rv h' => rv = some (.int (nI (o + max g p))) ∧ h' = h) := by
  refine jd_met rfl rfl rfl ?_
  refine ia_go 3 rfl ?_
  refine ia_mmax pg_ok.2 rfl (Nat.le_of_ble_eq_true rfl) hd ?_
  have e1 : (if nI g < nI p then nI p else nI g) = nI (max g p) := by
    by_cases hgp : g < p
    · rw [if_pos (nI_lt hgp (by omega)), Nat.max_eq_right (by omega)]
    · rw [if_neg (nI_nlt (by omega) (by omega)), Nat.max_eq_left (by omega)]
  rw [e1]
  refine ia_go 5 rfl ?_
  rw [nI_add]
  rw [if_neg (nI_nle (by omega) (by omega))]
  refine ia_go 1 rfl ?_
  refine ia_ldc rfl ?_
  refine ia_go 1 rfl ?_
  have e2 : ¬ (2147483639 : Int32) < nI (o + max g p) := by
    show ¬ nI 2147483639 < nI (o + max g p)
    rw [nI_ltI (by omega) (by omega)]; omega
  rw [if_neg e2]
  refine ia_go 1 rfl ?_
  exact jd_rv1 rfl rfl rfl trivial ⟨rfl, rfl⟩
theorem jd_newcap {G : ia_G} {h : ia_H} {d b v cap k : Nat} {v2 v3 : Value} {f : Nat → Value} (hd : 2 ≤ d) (hb : h.1 b = some (.inr (9, [.ref v, .int 0, v2, v3]))) (hv : h.1 v = some (.inl (.byte, cap, f))) (hc : cap ≤ 480) (hk : cap < k) (hk2 : k ≤ 480) : ia_Cn pg G kk_ab_newCapacity d 0 0 [.ref b, .int (nI k)] h (fun rv h' => rv = some (.int (nI (cap + max (k - cap) (cap + 2)))) ∧ h' = h) := by
  refine jd_met (ls := [.ref b, .int (nI k), .retAddr 0, .retAddr 0, .retAddr 0, .retAddr 0]) rfl rfl rfl ?_
  refine ia_go 1 rfl ?_
  refine ia_getf rfl hb rfl ?_
  refine jd_alen rfl hv ?_
  refine ia_go 1 rfl ?_
  dsimp only [ia_s1, ia_s2, ia_cl, ia_D, List.getElem?_cons_zero, List.getElem?_cons_succ, List.set_cons_zero, List.set_cons_succ]
  refine ia_go 2 rfl ?_
  refine ia_getf rfl hb rfl ?_
  refine ia_go 2 rfl ?_
  dsimp only [ia_s1, ia_s2, ia_cl, ia_D, List.getElem?_cons_zero, List.getElem?_cons_succ, List.set_cons_zero, List.set_cons_succ]
  refine ia_go 4 rfl ?_
  dsimp only [ia_s1, ia_s2, ia_cl, ia_D, List.getElem?_cons_zero, List.getElem?_cons_succ, List.set_cons_zero, List.set_cons_succ]
  refine ia_go 5 rfl ?_
  refine ia_getf rfl hb rfl ?_
  refine ia_go 2 rfl ?_
  rw [jd_sl0, jd_sub (by omega), show (2 : Int32) <<< ((0 : Int32) &&& 31) = nI 2 by decide, nI_add]
  refine jd_cS [.int (nI cap), .int (nI (k - cap)), .int (nI (cap + 2))] [] 0 0 (d' := d - 1) rfl rfl rfl rfl rfl (by omega) (by omega) (by omega) (jd_newlen (by omega) (by omega) (by omega) (by omega) (by omega)) ?_
  rintro rv h' ⟨rfl, rfl⟩
  refine ia_go 1 rfl ?_
  dsimp only [ia_s1, ia_s2, ia_cl, ia_D, List.getElem?_cons_zero, List.getElem?_cons_succ, List.set_cons_zero, List.set_cons_succ]
  refine ia_go 1 rfl ?_
  refine ia_ldc rfl ?_
  refine ia_go 1 rfl ?_
  have e2 : ¬ nI (cap + max (k - cap) (cap + 2)) = (2147483647 : Int32) := by
    show ¬ nI (cap + max (k - cap) (cap + 2)) = nI 2147483647
    rw [nI_eq (by omega) (by omega)]; omega
  rw [if_pos e2]
  refine ia_go 2 rfl ?_
  refine ia_getf rfl hb rfl ?_
  refine ia_go 1 rfl ?_
  rw [jd_sh0]
  exact jd_rv1 rfl rfl rfl trivial ⟨rfl, rfl⟩
/-- Arrays.copyOf of bytes, to a length that is more -/
theorem jd_copyOf {G : ia_G} {h : ia_H} {d v cap n : Nat} {f : Nat → Value} (hd : 1 ≤ d) (hv : h.1 v = some (.inl (.byte, cap, f))) (hf : ∀ j, j < cap → ∃ x : Int32, f j = .int x ∧ fits .byte (.int x) = true) (hc : cap < n) (hn : n ≤ 1000) (h64 : 64 ≤ h.2) (hne : v < h.2) : ia_Cn pg G kk_ar_copyOf d 1 n [.ref v, .int (nI n)] h (fun rv h' => rv = some (.ref h.2) ∧ h' = (ia_up h.1 h.2 (.inl (.byte, n, va_cpy f (fun _ => .int 0) 0 0 cap)), h.2 + 1)) := by
  refine jd_met (ls := [.ref v, .int (nI n), .retAddr 0]) rfl rfl rfl ?_
  refine ia_go 2 rfl ?_
  refine jd_alen rfl hv ?_
  refine ia_go 1 rfl ?_
  rw [if_pos (show ¬ nI n = nI cap by rw [nI_eq (by omega) (by omega)]; omega)]
  refine ia_go 1 rfl ?_
  refine ia_newa rfl rfl rfl (N := n) (bc' := 0) (bs' := 0) (nI_pos (by omega)) (nI_clamp (by omega)) (by show n * 1 ≤ 536870912; omega) (by omega) (by omega) ?_
  refine ia_go 1 rfl ?_
  dsimp only [ia_s1, ia_s2, ia_cl, ia_D, List.getElem?_cons_zero, List.getElem?_cons_succ, List.set_cons_zero, List.set_cons_succ]
  refine ia_go 5 rfl ?_
  have hv' : ia_up h.1 h.2 (.inl (.byte, n, fun _ => .int 0)) v = some (.inl (.byte, cap, f)) := (ia_up_ne (by omega)).trans hv
  refine jd_alen rfl hv' ?_
  refine ia_go 1 rfl ?_
  refine ia_mmin pg_ok.2 rfl (Nat.le_of_ble_eq_true rfl) (by omega) ?_
  rw [if_neg (nI_nlt (by omega) (by omega))]
  refine ia_copy pg_ok.2 rfl hv' ia_up_same h64 (by decide) (by decide) (nI_pos (by omega)) (by rw [nI_clamp (by omega)]; show 0 + cap ≤ cap; omega) (by rw [nI_clamp (by omega)]; show 0 + cap ≤ n; omega) (fun i hi => by rw [nI_clamp (by omega)] at hi; show ∃ x, f (0 + i) = _ ∧ _; rw [Nat.zero_add]; exact hf i hi) (Nat.le_of_ble_eq_true rfl) hd ?_
  refine ia_go 1 rfl ?_
  refine jd_rv1 rfl rfl rfl trivial ⟨rfl, ?_⟩
  rw [nI_clamp (by omega)]
  show (ia_up (ia_up h.1 h.2 _) h.2 _, _) = _
  congr 1
  funext q
  by_cases hq : q = h.2
  · subst hq; rw [ia_up_same, ia_up_same]; rfl
  · rw [ia_up_ne hq, ia_up_ne hq, ia_up_ne hq]
/-- room for k bytes -/
theorem jd_ensure {G : ia_G} {h : ia_H} {d b v cap k : Nat} {t : List Int32} (hd : 3 ≤ d) (hB : sx_b h b v cap t) (hk : k ≤ 240) : ia_Cn pg G kk_ab_ensureCapacityInternal d 1 480 [.ref b, .int (nI k)] h (fun rv h' => rv = none ∧ ∃ v' cap', sx_b h' b v' cap' t ∧ k ≤ cap' ∧ sx_fr h h' (fun q => q = b) ∧ h'.2 ≤ h.2 + 1 ∧ (v' = v ∨ h.2 ≤ v')) := by
  obtain ⟨m, f, hb, hv, hf, hx, hl, hc, g1, g2, g3, g4, g5, g6⟩ := hB
  refine jd_met (ls := [.ref b, .int (nI k), .retAddr 0]) rfl rfl rfl ?_
  refine ia_go 1 rfl ?_
  refine ia_getf rfl hb rfl ?_
  refine jd_alen rfl hv ?_
  refine ia_go 1 rfl ?_
  refine ia_getf rfl hb rfl ?_
  refine ia_go 2 rfl ?_
  dsimp only [ia_s1, ia_s2, ia_cl, ia_D, List.getElem?_cons_zero, List.getElem?_cons_succ, List.set_cons_zero, List.set_cons_succ]
  refine ia_go 4 rfl ?_
  rw [jd_sh0]
  by_cases hkc : k ≤ cap
  · rw [if_pos (show nI k - nI cap ≤ 0 by rw [Int32.le_iff_toInt_le, jd_subI (by omega) (by omega)]; show (k : Int) - cap ≤ 0; omega)]
    exact jd_rv0 rfl rfl rfl ⟨rfl, v, cap, ⟨m, f, hb, hv, hf, hx, hl, hc, g1, g2, g3, g4, g5, g6⟩, hkc, sx_fr.rf, by omega, Or.inl rfl⟩
  · rw [jd_sub (by omega)]
    rw [if_neg (nI_nle (by omega) (by omega))]
    refine ia_go 2 rfl ?_
    refine ia_getf rfl hb rfl ?_
    refine ia_go 2 rfl ?_
    refine jd_cV b [.int (nI k)] [.ref v, .ref b] 0 0 (d' := d - 1) rfl rfl rfl hb rfl rfl (by omega) (by omega) (by omega) (jd_newcap (by omega) hb hv hc (by omega) (by omega)) ?_
    rintro rv h' ⟨rfl, rfl⟩
    refine ia_go 1 rfl ?_
    refine ia_getf rfl hb rfl ?_
    refine ia_go 1 rfl ?_
    rw [jd_sl0]
    refine jd_cS [.ref v, .int (nI (cap + max (k - cap) (cap + 2)))] [.ref b] 1 (cap + max (k - cap) (cap + 2)) (d' := d - 1) rfl rfl rfl rfl rfl (by omega) (by omega) (by omega) (jd_copyOf (by omega) hv hx (by omega) (by omega) (by omega) (by omega)) ?_
    rintro rv h' ⟨rfl, rfl⟩
    have hb' : ia_up h'.1 h'.2 (.inl (.byte, cap + max (k - cap) (cap + 2), va_cpy f (fun _ => .int 0) 0 0 cap)) b = some (.inr (9, [.ref v, .int 0, .int m, .int (nI t.length)])) := (ia_up_ne (by omega)).trans hb
    refine ia_putf rfl hb' g1 rfl rfl rfl rfl ?_
    refine jd_rv0 rfl rfl rfl ⟨rfl, h'.2, cap + max (k - cap) (cap + 2), ⟨m, va_cpy f (fun _ => .int 0) 0 0 cap, ia_up_same, (ia_up_ne (by omega)).trans ia_up_same, ?_, ?_, by omega, by omega, g1, by omega, by omega, by show b < h'.2 + 1; omega, by show h'.2 < h'.2 + 1; omega, g6⟩, by omega, ⟨by show h'.2 ≤ h'.2 + 1; omega, fun q hq hS => ?_⟩, by show h'.2 + 1 ≤ h'.2 + 1; omega, Or.inr (Nat.le_refl _)⟩
    · intro j c hj
      have hj2 : j < t.length := (List.getElem?_eq_some_iff.mp hj).1
      unfold va_cpy
      rw [if_pos ⟨by omega, by omega⟩]
      have := hf j c hj
      rw [show 0 + (j - 0) = j by omega]; exact this
    · intro j hj
      unfold va_cpy
      by_cases hjc : 0 ≤ j ∧ j < 0 + cap
      · rw [if_pos hjc, show 0 + (j - 0) = j by omega]; exact hx j (by omega)
      · rw [if_neg hjc]; exact ⟨0, rfl, rfl⟩
    · rw [show (ia_up (ia_up h'.1 h'.2 _) b _, h'.2 + 1).1 q = ia_up h'.1 h'.2 _ q from ia_up_ne hS]
      exact ia_up_ne (by omega)
