/-! THE REFERENCE, 18: worked, guard. -/
theorem tx_s_cases {c : Int32} {ty ty' : List Bool} (hc : tx_s c ty = some ty') : (tx_z c = true ∧ ty' = false :: ty) ∨ (c = 84 ∧ ty' = true :: ty) ∨ (c = 33 ∧ ∃ x t, ty = x :: t ∧ ty' = true :: t) ∨ (c ≠ 84 ∧ c ≠ 33 ∧ ¬ tx_z c = true ∧ ∃ x y z t, ty = x :: y :: t ∧ ty' = z :: t) := by
  by_cases hz : tx_z c = true
  · rw [tx_s_n hz] at hc
    cases hc
    exact Or.inl ⟨hz, rfl⟩
  by_cases h84 : c = 84
  · subst h84; cases hc; exact Or.inr (Or.inl ⟨rfl, rfl⟩)
  by_cases h33 : c = 33
  · subst h33
    refine Or.inr (Or.inr (Or.inl ⟨rfl, ?_⟩))
    match ty, hc with
    | true :: t, hc => cases hc; exact ⟨true, t, rfl, rfl⟩
    | false :: t, hc => cases hc
    | [], hc => cases hc
  refine Or.inr (Or.inr (Or.inr ⟨h84, h33, hz, ?_⟩))
  unfold tx_s at hc
  rw [if_neg hz, if_neg (by simpa using h84)] at hc
  split at hc
  next h =>
    split at hc
    next => cases hc; exact ⟨_, _, _, _, rfl, rfl⟩
    next => cases hc
  next =>
    split at hc
    next h =>
      split at hc
      next => cases hc; exact ⟨_, _, _, _, rfl, rfl⟩
      next => cases hc
    next =>
      rw [if_neg (by simpa using h33)] at hc
      split at hc
      next h =>
        split at hc
        next => cases hc; exact ⟨_, _, _, _, rfl, rfl⟩
        next => cases hc
      next => cases hc
theorem tx_v_len {g : Int32 → Int32} {c : Int32} {ty ty' : List Bool} {V : List Int32} (hc : tx_s c ty = some ty') (hl : V.length = ty.length) : (tx_v g c V).length = ty'.length ∧ ty'.length ≤ ty.length + 1 := by
  rcases tx_s_cases hc with ⟨hz, rfl⟩ | ⟨rfl, rfl⟩ | ⟨rfl, x, t, rfl, rfl⟩ | ⟨h84, h33, hz, x, y, z, t, rfl, rfl⟩
  · unfold tx_v
    rw [if_neg (by intro z; rw [eq_of_beq z] at hz; exact absurd hz (by decide)), if_neg (by intro z; rw [eq_of_beq z] at hz; exact absurd hz (by decide)), if_pos hz]
    simp [hl]
  · exact ⟨by show (1 :: V).length = _; simp [hl], by simp⟩
  · match V, hl with
    | v :: W, hl => exact ⟨by show ((1 - v) :: W).length = _; simpa using hl, by simp⟩
  · match V, hl with
    | v :: w :: W, hl =>
      refine ⟨?_, by simp⟩
      unfold tx_v
      rw [if_neg (by simpa using h84), if_neg (by simpa using h33), if_neg hz]
      simpa using hl
theorem tx_e_len {g : Int32 → Int32} : ∀ (u : List Int32) (y : List Bool), tx_f u [] = some y → (tx_e g u []).length = y.length ∧ y.length ≤ u.length := by
  intro u
  induction u with
  | nil => intro y h; cases h; exact ⟨rfl, Nat.le_refl _⟩
  | cons c u ih =>
    intro y h
    cases hu : tx_f u [] with
    | none => simp only [tx_f, hu] at h; cases h
    | some y1 =>
      simp only [tx_f, hu] at h
      obtain ⟨a1, a2⟩ := ih y1 hu
      obtain ⟨b1, b2⟩ := tx_v_len (g := g) (ty' := y) h a1
      exact ⟨b1, by simp; omega⟩
theorem tx_f_tail {u : List Int32} {c : Int32} {y : List Bool} (h : tx_f (c :: u) [] = some y) : ∃ y1, tx_f u [] = some y1 ∧ tx_s c y1 = some y := by
  cases hu : tx_f u [] with
  | none => simp only [tx_f, hu] at h; cases h
  | some y1 => simp only [tx_f, hu] at h; exact ⟨y1, rfl, h⟩
theorem tx_f_drop {t : List Int32} {y : List Bool} (h : tx_f t [] = some y) : ∀ i, ∃ y1, tx_f (t.drop i) [] = some y1 := by
  induction t generalizing y with
  | nil => intro i; rw [List.drop_nil]; exact ⟨y, h⟩
  | cons c t ih =>
    intro i
    cases i with
    | zero => exact ⟨y, h⟩
    | succ i =>
      obtain ⟨y1, h1, -⟩ := tx_f_tail h
      exact ih h1 i
def wk_R (h0 : ia_H) (F : Nat → Nat → Int32) (S : Nat → Int32) (h' : ia_H) : Prop := ∃ F' S', rm_X h0 h' F' S' ∧ (∀ k j, k ≠ 15 → F' k j = F k j) ∧ ∀ k, k ≠ 7 → S' k = S k
theorem gst_ext {F F' : Nat → Nat → Int32} (h : ∀ k j, k ≠ 15 → F' k j = F k j) : gst F' = gst F := by
  unfold gst
  rw [h 16 0 (by decide), h 16 1 (by decide), h 16 2 (by decide), h 16 3 (by decide), h 16 4 (by decide)]
theorem rm_wkloop {G : ia_G} {h0 : ia_H} {d p n : Nat} {x : Bool} {F : Nat → Nat → Int32} {S : Nat → Int32} {t : List Int32} (hd : 2 ≤ d) (hl : t.length = n) (hl2 : n ≤ 120) (hp : p + n ≤ 10600) (ht : tm_t F p t) (hty : tx_f t [] = some [x]) : ∀ (i : Nat), i ≤ n → ∀ (h : ia_H) (F1 : Nat → Nat → Int32) (S1 : Nat → Int32), rm_X h0 h F1 S1 → (∀ k j, k ≠ 15 → F1 k j = F k j) → (∀ k, k ≠ 7 → S1 k = S k) → S1 7 = nI (tx_e (gst F) (t.drop i) []).length → pl F1 (tx_e (gst F) (t.drop i) []) → ia_Sx pg G kk_M_worked d 0 0 9 [.ref 117, .int (nI p), .int (nI n), .int (nI i - 1)] [] h (fun rv h' => rv = some (.int (tx_x (gst F) t)) ∧ wk_R h0 F S h') := by
  intro i
  induction i with
  | zero =>
    intro hi h F1 S1 hm hF hS hS7 hpl
    rw [List.drop_zero] at hpl
    have hv : F1 15 0 = tx_x (gst F) t := by
      have hlen := (tx_e_len (g := gst F) t [x] hty).1
      unfold tx_x
      match hV : tx_e (gst F) t [], hlen, hpl with
      | [v], _, hpl => exact hpl.1
    refine ia_go 2 rfl ?_
    rw [if_pos (by decide)]
    refine ia_go 1 rfl ?_
    refine ia_getf rfl hm.1.1 rfl ?_
    refine ia_go 1 rfl ?_
    refine rm_ld (K := 15) (i := 0) rfl hm (by decide) rfl (by decide) (by decide) ?_
    rw [hv]
    exact jd_rv1 rfl rfl rfl trivial ⟨rfl, F1, S1, hm, hF, hS⟩
  | succ i ih =>
    intro hi h F1 S1 hm hF hS hS7 hpl
    have hit : i < t.length := by omega
    obtain ⟨y, hy⟩ := tx_f_drop hty i
    have hdr : t.drop i = t[i] :: t.drop (i + 1) := List.drop_eq_getElem_cons hit
    rw [hdr] at hy
    obtain ⟨y1, hy1, hs⟩ := tx_f_tail hy
    obtain ⟨a1, a2⟩ := tx_e_len (g := gst F) _ y1 hy1
    have hc : F1 0 (p + i) = t[i] := (hF 0 _ (by decide)).trans (ht i _ (List.getElem?_eq_getElem hit))
    have hlt : (tx_e (gst F) (t.drop (i + 1)) []).length < 130 := by
      have := List.length_drop (i := i + 1) (l := t)
      omega
    rw [show nI (i + 1) - 1 = nI i from jd_sub (b := 1) (by omega)]
    refine ia_go 2 rfl ?_
    rw [if_neg (show ¬ nI i < 0 from nI_pos (by omega))]
    refine ia_go 2 rfl ?_
    refine ia_getf rfl hm.1.1 rfl ?_
    refine ia_go 3 rfl ?_
    rw [nI_add]
    refine rm_ld (K := 0) rfl hm (by decide) rfl (show p + i < 10600 by omega) (by decide) ?_
    rw [hc]
    refine jd_cV 117 [.int t[i]] [] 0 0 (d' := d - 1) rfl rfl rfl hm.1.1 rfl rfl (by omega) (by omega) (by omega) (rm_step (by omega) hm.1 hS7 hpl a1 hlt hs) ?_
    rintro rv h2 ⟨rfl, F2, hm2, hpl2, hF2⟩
    refine ia_go 1 rfl ?_
    dsimp only [ia_s1, ia_s2, ia_cl, ia_D, List.getElem?_cons_zero, List.getElem?_cons_succ, List.set_cons_zero, List.set_cons_succ]
    refine ia_go 1 rfl ?_
    rw [show nI i + Int32.ofInt (-1) = nI i - 1 by rw [Int32.sub_eq_add_neg]; rfl]
    have hg : gst F1 = gst F := gst_ext hF
    have he : tx_v (gst F1) t[i] (tx_e (gst F) (t.drop (i + 1)) []) = tx_e (gst F) (t.drop i) [] := by rw [hdr, hg]; rfl
    rw [he] at hm2 hpl2
    refine ih (by omega) h2 F2 _ (hm.tr hm2) (fun k j hk => (hF2 k j hk).trans (hF k j hk)) (fun k hk => ?_) rfl hpl2
    unfold rm_s
    rw [if_neg hk]
    exact hS k hk
theorem rm_worked {G : ia_G} {h0 : ia_H} {d p : Nat} {x : Bool} {F : Nat → Nat → Int32} {S : Nat → Int32} {t : List Int32} (hd : 2 ≤ d) (hm : rm h0 F S) (hl2 : t.length ≤ 120) (hp : p + t.length ≤ 10600) (ht : tm_t F p t) (hty : tx_f t [] = some [x]) : ia_Cn pg G kk_M_worked d 0 0 [.ref 117, .int (nI p), .int (nI t.length)] h0 (fun rv h' => rv = some (.int (tx_x (gst F) t)) ∧ wk_R h0 F S h') := by
  have hX := hm.X
  refine jd_met (ls := [.ref 117, .int (nI p), .int (nI t.length), .retAddr 0]) rfl rfl rfl ?_
  refine ia_go 2 rfl ?_
  refine rm_put (sk := 7) rfl hX rfl rfl (fun h1 hX => ?_)
  refine ia_go 4 rfl ?_
  dsimp only [ia_s1, ia_s2, ia_cl, ia_D, List.getElem?_cons_zero, List.getElem?_cons_succ, List.set_cons_zero, List.set_cons_succ]
  refine rm_wkloop hd rfl hl2 hp ht hty t.length (Nat.le_refl _) h1 F _ hX (fun _ _ _ => rfl) (fun k hk => ?_) ?_ ?_
  · unfold rm_s; rw [if_neg hk]
  · rw [List.drop_length]; rfl
  · rw [List.drop_length]; trivial
theorem rm_gdloop {G : ia_G} {h0 : ia_H} {d p : Nat} {x : Bool} {F : Nat → Nat → Int32} {S : Nat → Int32} {t : List Int32} (hd : 2 ≤ d) (hp : p ≤ 16) (ht : tm_g F p t) (hty : tx_f t [] = some [x]) : ∀ (i : Nat), i ≤ t.length → ∀ (h : ia_H) (F1 : Nat → Nat → Int32) (S1 : Nat → Int32), rm_X h0 h F1 S1 → (∀ k j, k ≠ 15 → F1 k j = F k j) → (∀ k, k ≠ 7 → S1 k = S k) → S1 7 = nI (tx_e (gst F) (t.drop i) []).length → pl F1 (tx_e (gst F) (t.drop i) []) → ia_Sx pg G kk_M_guard d 0 0 14 [.ref 117, .int (nI p), .int (nI i - 1)] [] h (fun rv h' => rv = some (.int (tx_x (gst F) t)) ∧ wk_R h0 F S h') := by
  have hl2 := ht.2.1
  have h60 : (60 : Int32) * nI p = nI (60 * p) := by unfold nI; rw [Int32.ofNat_mul]; rfl
  intro i
  induction i with
  | zero =>
    intro hi h F1 S1 hm hF hS hS7 hpl
    rw [List.drop_zero] at hpl
    have hv : F1 15 0 = tx_x (gst F) t := by
      have hlen := (tx_e_len (g := gst F) t [x] hty).1
      unfold tx_x
      match hV : tx_e (gst F) t [], hlen, hpl with
      | [v], _, hpl => exact hpl.1
    refine ia_go 2 rfl ?_
    rw [if_pos (by decide)]
    refine ia_go 1 rfl ?_
    refine ia_getf rfl hm.1.1 rfl ?_
    refine ia_go 1 rfl ?_
    refine rm_ld (K := 15) (i := 0) rfl hm (by decide) rfl (by decide) (by decide) ?_
    rw [hv]
    exact jd_rv1 rfl rfl rfl trivial ⟨rfl, F1, S1, hm, hF, hS⟩
  | succ i ih =>
    intro hi h F1 S1 hm hF hS hS7 hpl
    have hit : i < t.length := by omega
    obtain ⟨y, hy⟩ := tx_f_drop hty i
    have hdr : t.drop i = t[i] :: t.drop (i + 1) := List.drop_eq_getElem_cons hit
    rw [hdr] at hy
    obtain ⟨y1, hy1, hs⟩ := tx_f_tail hy
    obtain ⟨a1, a2⟩ := tx_e_len (g := gst F) _ y1 hy1
    have hc : F1 11 (60 * p + i) = t[i] := (hF 11 _ (by decide)).trans (ht.2.2 i _ (List.getElem?_eq_getElem hit))
    have hlt : (tx_e (gst F) (t.drop (i + 1)) []).length < 130 := by
      have := List.length_drop (i := i + 1) (l := t)
      omega
    rw [show nI (i + 1) - 1 = nI i from jd_sub (b := 1) (by omega)]
    refine ia_go 2 rfl ?_
    rw [if_neg (show ¬ nI i < 0 from nI_pos (by omega))]
    refine ia_go 2 rfl ?_
    refine ia_getf rfl hm.1.1 rfl ?_
    refine ia_go 5 rfl ?_
    rw [h60, nI_add]
    refine rm_ld (K := 11) rfl hm (by decide) rfl (show 60 * p + i < 1020 by omega) (by decide) ?_
    rw [hc]
    refine jd_cV 117 [.int t[i]] [] 0 0 (d' := d - 1) rfl rfl rfl hm.1.1 rfl rfl (by omega) (by omega) (by omega) (rm_step (by omega) hm.1 hS7 hpl a1 hlt hs) ?_
    rintro rv h2 ⟨rfl, F2, hm2, hpl2, hF2⟩
    refine ia_go 1 rfl ?_
    dsimp only [ia_s1, ia_s2, ia_cl, ia_D, List.getElem?_cons_zero, List.getElem?_cons_succ, List.set_cons_zero, List.set_cons_succ]
    refine ia_go 1 rfl ?_
    rw [show nI i + Int32.ofInt (-1) = nI i - 1 by rw [Int32.sub_eq_add_neg]; rfl]
    have hg : gst F1 = gst F := gst_ext hF
    have he : tx_v (gst F1) t[i] (tx_e (gst F) (t.drop (i + 1)) []) = tx_e (gst F) (t.drop i) [] := by rw [hdr, hg]; rfl
    rw [he] at hm2 hpl2
    refine ih (by omega) h2 F2 _ (hm.tr hm2) (fun k j hk => (hF2 k j hk).trans (hF k j hk)) (fun k hk => ?_) rfl hpl2
    unfold rm_s
    rw [if_neg hk]
    exact hS k hk
theorem rm_guard {G : ia_G} {h0 : ia_H} {d p : Nat} {x : Bool} {F : Nat → Nat → Int32} {S : Nat → Int32} {t : List Int32} (hd : 2 ≤ d) (hm : rm h0 F S) (hp : p ≤ 16) (ht : tm_g F p t) (hty : tx_f t [] = some [x]) : ia_Cn pg G kk_M_guard d 0 0 [.ref 117, .int (nI p)] h0 (fun rv h' => rv = some (.int (tx_x (gst F) t)) ∧ wk_R h0 F S h') := by
  have hX := hm.X
  refine jd_met (ls := [.ref 117, .int (nI p), .retAddr 0]) rfl rfl rfl ?_
  refine ia_go 2 rfl ?_
  refine rm_put (sk := 7) rfl hX rfl rfl (fun h1 hX => ?_)
  refine ia_go 1 rfl ?_
  refine ia_getf rfl hX.1.1 rfl ?_
  refine ia_go 1 rfl ?_
  refine rm_ld (K := 12) rfl hX (by decide) rfl (show p < 17 by omega) (by decide) ?_
  rw [ht.1]
  refine ia_go 3 rfl ?_
  dsimp only [ia_s1, ia_s2, ia_cl, ia_D, List.getElem?_cons_zero, List.getElem?_cons_succ, List.set_cons_zero, List.set_cons_succ]
  refine rm_gdloop hd hp ht hty t.length (Nat.le_refl _) h1 F _ hX (fun _ _ _ => rfl) (fun k hk => ?_) ?_ ?_
  · unfold rm_s; rw [if_neg hk]
  · rw [List.drop_length]; rfl
  · rw [List.drop_length]; trivial
