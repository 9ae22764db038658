/-! THE REFERENCE, 31: it is made. -/
def rmi (h0 h : ia_H) (k : Nat) (fs : List Value) : Prop := h.1 117 = some (.inr (8, fs)) ∧ (∀ q, q < k → h.1 (q + 118) = some (.inl (rm_y q, rm_n q, fun _ => .int 0))) ∧ h.2 = 118 + k ∧ ∀ q, q < 117 → h.1 q = h0.1 q
theorem rmi_st {G : ia_G} {k' d bc bs pc : Nat} {ls st : List Value} {h0 h : ia_H} {Post : Option Value → ia_H → Prop} {nx tg r2 nx2 idx fk k bc' bs' : Nat} {c1 c2 : Value} {t : ArrayType} {n : Int32} {fs : List Value} {tys : List FieldType} {fty : FieldType} (hm : rmi h0 h k fs) (hr1 : ia_row pg k' pc = some (.newarray t, nx, tg, r2, c1)) (hty : newarray.typeOf t = rm_y k) (hdv : defaultValue (rm_y k) = .int 0) (hn : ¬ n < 0) (hN : n.toNatClampNeg = rm_n k) (hb : rm_n k * componentBytes (rm_y k) ≤ 536870912) (hbc : bc' + 1 ≤ bc) (hbs : bs' + rm_n k ≤ bs) (hr2 : ia_row pg k' nx = some (.putfield idx, nx2, 8, fk, c2)) (htab : (ia_Pt pg)[8]? = some tys) (hfty : tys[fk]? = some fty) (hn2 : narrow fty (ia_cv G (.ref (118 + k))) = ia_cv G (.ref (118 + k))) (hf2 : fits fty (ia_cv G (.ref (118 + k))) = true) (kk : ∀ h', rmi h0 h' (k + 1) (fs.set fk (.ref (118 + k))) → ia_Sx pg G k' d bc' bs' nx2 ls st h' Post) : ia_Sx pg G k' d bc bs pc ls (.int n :: .ref 117 :: st) h Post := by
  obtain ⟨g1, g2, g3, g4⟩ := hm
  refine ia_newa hr1 hty hdv hn hN hb hbc hbs ?_
  rw [g3]
  have e117 : (ia_up h.1 (118 + k) (.inl (rm_y k, rm_n k, fun _ => .int 0))) 117 = some (.inr (8, fs)) := (ia_up_ne (by omega)).trans g1
  refine ia_putf hr2 e117 (by decide) htab hfty hn2 hf2 ?_
  refine kk _ ⟨?_, fun q hq => ?_, ?_, fun q hq => ?_⟩
  · show ia_up (ia_up h.1 (118 + k) (.inl (rm_y k, rm_n k, fun _ => .int 0))) 117 (.inr (8, fs.set fk (.ref (118 + k)))) 117 = _
    exact ia_up_same
  · show ia_up (ia_up h.1 (118 + k) (.inl (rm_y k, rm_n k, fun _ => .int 0))) 117 (.inr (8, fs.set fk (.ref (118 + k)))) (q + 118) = _
    refine (ia_up_ne (by omega)).trans ?_
    by_cases hqk : q = k
    · subst hqk; rw [show q + 118 = 118 + q by omega]; exact ia_up_same
    · exact (ia_up_ne (by omega)).trans (g2 q (by omega))
  · show 118 + k + 1 = _
    omega
  · show ia_up (ia_up h.1 (118 + k) (.inl (rm_y k, rm_n k, fun _ => .int 0))) 117 (.inr (8, fs.set fk (.ref (118 + k)))) q = _
    exact (ia_up_ne (by omega)).trans ((ia_up_ne (by omega)).trans (g4 q hq))
theorem rm_init {G : ia_G} {h0 : ia_H} {d : Nat} (hd : 1 ≤ d) (h117 : h0.1 117 = some (.inr (8, [.null, .null, .int 0, .null, .null, .null, .null, .null, .null, .null, .null, .null, .null, .null, .int 0, .null, .int 0, .int 0, .null, .null, .null, .null, .int 0, .null, .null, .null, .null, .null, .int 0, .null, .int 0, .int 0]))) (h2 : h0.2 = 118) : ia_Cn pg G kk_M_init d 24 12540 [.ref 117] h0 (fun rv h' => rv = none ∧ (∃ F, rm h' F (fun _ => 0) ∧ (∀ i, i < 3 → tm_s F i [84]) ∧ tm_s F 3 [48] ∧ ∀ k j, 2 ≤ k → F k j = 0) ∧ h'.2 = 142 ∧ ∀ q, q < 117 → h'.1 q = h0.1 q) := by
  have hi : rmi h0 h0 0 _ := ⟨h117, fun q hq => by omega, h2, fun _ _ => rfl⟩
  refine jd_met (ls := [.ref 117, .retAddr 0]) rfl rfl rfl ?_
  refine ia_go 1 rfl ?_
  refine ia_obj pg_ok.2 rfl (Nat.le_of_ble_eq_true rfl) (by omega) ?_
  refine ia_go 2 rfl ?_
  refine rmi_st (k := 0) (bc' := 23) (bs' := 1940) hi rfl rfl rfl (by decide) (by decide) (by decide) (by omega) (by show 1940 + 10600 ≤ 12540; omega) rfl rfl rfl rfl rfl (fun h1 hi => ?_)
  refine ia_go 2 rfl ?_
  refine rmi_st (k := 1) (bc' := 22) (bs' := 1870) hi rfl rfl rfl (by decide) (by decide) (by decide) (by omega) (by show 1870 + 70 ≤ 1940; omega) rfl rfl rfl rfl rfl (fun h1 hi => ?_)
  refine ia_go 2 rfl ?_
  refine rmi_st (k := 2) (bc' := 21) (bs' := 1853) hi rfl rfl rfl (by decide) (by decide) (by decide) (by omega) (by show 1853 + 17 ≤ 1870; omega) rfl rfl rfl rfl rfl (fun h1 hi => ?_)
  refine ia_go 2 rfl ?_
  refine rmi_st (k := 3) (bc' := 20) (bs' := 1836) hi rfl rfl rfl (by decide) (by decide) (by decide) (by omega) (by show 1836 + 17 ≤ 1853; omega) rfl rfl rfl rfl rfl (fun h1 hi => ?_)
  refine ia_go 2 rfl ?_
  refine rmi_st (k := 4) (bc' := 19) (bs' := 1819) hi rfl rfl rfl (by decide) (by decide) (by decide) (by omega) (by show 1819 + 17 ≤ 1836; omega) rfl rfl rfl rfl rfl (fun h1 hi => ?_)
  refine ia_go 2 rfl ?_
  refine rmi_st (k := 5) (bc' := 18) (bs' := 1802) hi rfl rfl rfl (by decide) (by decide) (by decide) (by omega) (by show 1802 + 17 ≤ 1819; omega) rfl rfl rfl rfl rfl (fun h1 hi => ?_)
  refine ia_go 2 rfl ?_
  refine rmi_st (k := 6) (bc' := 17) (bs' := 1785) hi rfl rfl rfl (by decide) (by decide) (by decide) (by omega) (by show 1785 + 17 ≤ 1802; omega) rfl rfl rfl rfl rfl (fun h1 hi => ?_)
  refine ia_go 2 rfl ?_
  refine rmi_st (k := 7) (bc' := 16) (bs' := 1768) hi rfl rfl rfl (by decide) (by decide) (by decide) (by omega) (by show 1768 + 17 ≤ 1785; omega) rfl rfl rfl rfl rfl (fun h1 hi => ?_)
  refine ia_go 2 rfl ?_
  refine rmi_st (k := 8) (bc' := 15) (bs' := 1751) hi rfl rfl rfl (by decide) (by decide) (by decide) (by omega) (by show 1751 + 17 ≤ 1768; omega) rfl rfl rfl rfl rfl (fun h1 hi => ?_)
  refine ia_go 2 rfl ?_
  refine rmi_st (k := 9) (bc' := 14) (bs' := 1734) hi rfl rfl rfl (by decide) (by decide) (by decide) (by omega) (by show 1734 + 17 ≤ 1751; omega) rfl rfl rfl rfl rfl (fun h1 hi => ?_)
  refine ia_go 2 rfl ?_
  refine rmi_st (k := 10) (bc' := 13) (bs' := 1717) hi rfl rfl rfl (by decide) (by decide) (by decide) (by omega) (by show 1717 + 17 ≤ 1734; omega) rfl rfl rfl rfl rfl (fun h1 hi => ?_)
  refine ia_go 2 rfl ?_
  refine rmi_st (k := 11) (bc' := 12) (bs' := 697) hi rfl rfl rfl (by decide) (by decide) (by decide) (by omega) (by show 697 + 1020 ≤ 1717; omega) rfl rfl rfl rfl rfl (fun h1 hi => ?_)
  refine ia_go 2 rfl ?_
  refine rmi_st (k := 12) (bc' := 11) (bs' := 680) hi rfl rfl rfl (by decide) (by decide) (by decide) (by omega) (by show 680 + 17 ≤ 697; omega) rfl rfl rfl rfl rfl (fun h1 hi => ?_)
  refine ia_go 2 rfl ?_
  refine rmi_st (k := 13) (bc' := 10) (bs' := 674) hi rfl rfl rfl (by decide) (by decide) (by decide) (by omega) (by show 674 + 6 ≤ 680; omega) rfl rfl rfl rfl rfl (fun h1 hi => ?_)
  refine ia_go 2 rfl ?_
  refine rmi_st (k := 14) (bc' := 9) (bs' := 544) hi rfl rfl rfl (by decide) (by decide) (by decide) (by omega) (by show 544 + 130 ≤ 674; omega) rfl rfl rfl rfl rfl (fun h1 hi => ?_)
  refine ia_go 2 rfl ?_
  refine rmi_st (k := 15) (bc' := 8) (bs' := 414) hi rfl rfl rfl (by decide) (by decide) (by decide) (by omega) (by show 414 + 130 ≤ 544; omega) rfl rfl rfl rfl rfl (fun h1 hi => ?_)
  refine ia_go 2 rfl ?_
  refine rmi_st (k := 16) (bc' := 7) (bs' := 409) hi rfl rfl rfl (by decide) (by decide) (by decide) (by omega) (by show 409 + 5 ≤ 414; omega) rfl rfl rfl rfl rfl (fun h1 hi => ?_)
  refine ia_go 2 rfl ?_
  refine rmi_st (k := 17) (bc' := 6) (bs' := 404) hi rfl rfl rfl (by decide) (by decide) (by decide) (by omega) (by show 404 + 5 ≤ 409; omega) rfl rfl rfl rfl rfl (fun h1 hi => ?_)
  refine ia_go 2 rfl ?_
  refine rmi_st (k := 18) (bc' := 5) (bs' := 324) hi rfl rfl rfl (by decide) (by decide) (by decide) (by omega) (by show 324 + 80 ≤ 404; omega) rfl rfl rfl rfl rfl (fun h1 hi => ?_)
  refine ia_go 2 rfl ?_
  refine rmi_st (k := 19) (bc' := 4) (bs' := 244) hi rfl rfl rfl (by decide) (by decide) (by decide) (by omega) (by show 244 + 80 ≤ 324; omega) rfl rfl rfl rfl rfl (fun h1 hi => ?_)
  refine ia_go 2 rfl ?_
  refine rmi_st (k := 20) (bc' := 3) (bs' := 164) hi rfl rfl rfl (by decide) (by decide) (by decide) (by omega) (by show 164 + 80 ≤ 244; omega) rfl rfl rfl rfl rfl (fun h1 hi => ?_)
  refine ia_go 2 rfl ?_
  refine rmi_st (k := 21) (bc' := 2) (bs' := 84) hi rfl rfl rfl (by decide) (by decide) (by decide) (by omega) (by show 84 + 80 ≤ 164; omega) rfl rfl rfl rfl rfl (fun h1 hi => ?_)
  refine ia_go 2 rfl ?_
  refine rmi_st (k := 22) (bc' := 1) (bs' := 4) hi rfl rfl rfl (by decide) (by decide) (by decide) (by omega) (by show 4 + 80 ≤ 84; omega) rfl rfl rfl rfl rfl (fun h1 hi => ?_)
  refine ia_go 2 rfl ?_
  refine rmi_st (k := 23) (bc' := 0) (bs' := 0) hi rfl rfl rfl (by decide) (by decide) (by decide) (by omega) (by show 0 + 4 ≤ 4; omega) rfl rfl rfl rfl rfl (fun h1 hi => ?_)
  refine ia_go 2 rfl ?_
  dsimp only [ia_s1, ia_s2, ia_cl, ia_D, List.getElem?_cons_zero, List.getElem?_cons_succ, List.set_cons_zero, List.set_cons_succ]
  obtain ⟨i1, i2, i3, i4⟩ := hi
  have hm : rm_X h1 h1 (fun _ _ => 0) (fun _ => 0) := ⟨⟨i1, fun k hk => i2 k hk⟩, sx_fr.rf, rfl⟩
  refine ia_go 3 rfl ?_
  rw [if_neg (by decide)]
  refine ia_go 1 rfl ?_
  refine ia_getf rfl hm.1.1 rfl ?_
  refine ia_go 6 rfl ?_
  refine rm_st (K := 0) (i := 9000) rfl hm (by decide) rfl (by decide) (by decide) (fun h2 hm => ?_)
  refine ia_go 1 rfl ?_
  refine ia_getf rfl hm.1.1 rfl ?_
  refine ia_go 2 rfl ?_
  refine rm_st (K := 1) (i := 0) rfl hm (by decide) rfl (by decide) (by decide) (fun h2 hm => ?_)
  refine ia_go 1 rfl ?_
  dsimp only [ia_s1, ia_s2, ia_cl, ia_D, List.getElem?_cons_zero, List.getElem?_cons_succ, List.set_cons_zero, List.set_cons_succ]
  refine ia_go 4 rfl ?_
  rw [if_neg (by decide)]
  refine ia_go 1 rfl ?_
  refine ia_getf rfl hm.1.1 rfl ?_
  refine ia_go 6 rfl ?_
  refine rm_st (K := 0) (i := 9060) rfl hm (by decide) rfl (by decide) (by decide) (fun h2 hm => ?_)
  refine ia_go 1 rfl ?_
  refine ia_getf rfl hm.1.1 rfl ?_
  refine ia_go 2 rfl ?_
  refine rm_st (K := 1) (i := 1) rfl hm (by decide) rfl (by decide) (by decide) (fun h2 hm => ?_)
  refine ia_go 1 rfl ?_
  dsimp only [ia_s1, ia_s2, ia_cl, ia_D, List.getElem?_cons_zero, List.getElem?_cons_succ, List.set_cons_zero, List.set_cons_succ]
  refine ia_go 4 rfl ?_
  rw [if_neg (by decide)]
  refine ia_go 1 rfl ?_
  refine ia_getf rfl hm.1.1 rfl ?_
  refine ia_go 6 rfl ?_
  refine rm_st (K := 0) (i := 9120) rfl hm (by decide) rfl (by decide) (by decide) (fun h2 hm => ?_)
  refine ia_go 1 rfl ?_
  refine ia_getf rfl hm.1.1 rfl ?_
  refine ia_go 2 rfl ?_
  refine rm_st (K := 1) (i := 2) rfl hm (by decide) rfl (by decide) (by decide) (fun h2 hm => ?_)
  refine ia_go 1 rfl ?_
  dsimp only [ia_s1, ia_s2, ia_cl, ia_D, List.getElem?_cons_zero, List.getElem?_cons_succ, List.set_cons_zero, List.set_cons_succ]
  refine ia_go 4 rfl ?_
  rw [if_pos (by decide)]
  refine ia_go 1 rfl ?_
  refine ia_getf rfl hm.1.1 rfl ?_
  refine ia_go 2 rfl ?_
  refine rm_st (K := 0) (i := 9180) rfl hm (by decide) rfl (by decide) (by decide) (fun h2 hm => ?_)
  refine ia_go 1 rfl ?_
  refine ia_getf rfl hm.1.1 rfl ?_
  refine ia_go 2 rfl ?_
  refine rm_st (K := 1) (i := 3) rfl hm (by decide) rfl (by decide) (by decide) (fun h2 hm => ?_)
  refine jd_rv0 rfl rfl rfl ⟨rfl, ⟨_, hm.1, fun i hi => ?_, ⟨fun j c hj => ?_, rfl, by decide⟩, fun k j hk => ?_⟩, hm.2.2.trans i3, fun q hq => ?_⟩
  · have his : i = 0 ∨ i = 1 ∨ i = 2 := by omega
    rcases his with rfl | rfl | rfl
    all_goals
      refine ⟨fun j c hj => ?_, rfl, by decide⟩
      cases j with
      | zero => cases hj; rfl
      | succ j => cases hj
  · cases j with
    | zero => cases hj; rfl
    | succ j => cases hj
  · rw [rm_uk (by omega), rm_uk (by omega), rm_uk (by omega), rm_uk (by omega), rm_uk (by omega), rm_uk (by omega), rm_uk (by omega), rm_uk (by omega)]
  · rw [hm.2.1.2 q (by rw [i3]; omega) (by unfold rm_S; omega)]; exact i4 q hq
