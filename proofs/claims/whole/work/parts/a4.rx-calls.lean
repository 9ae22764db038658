/-! THE REFERENCE'S CALLS, by the state. -/
section RX4
variable {G : ia_G} {h0 : ia_H} {d : Nat} {A : aS}
theorem rx_same {A : aS} {h : ia_H} {x : Int32} (h1 : RX A h) : rx_P h (A, x) (some (.int x)) h := ⟨rfl, h1, sx_fr.rf, rfl⟩
theorem rx_X {A : aS} {h0 h : ia_H} {F' : Nat → Nat → Int32} {S' : Nat → Int32} {x : Int32} (hX : rm_X h0 h F' S') (h1 : RI A F' S') : rx_P h0 (A, x) (some (.int x)) h := ⟨rfl, ⟨F', S', hX.1, h1⟩, hX.2.1, hX.2.2⟩
theorem rx_type {w : Int64} {n : Int32} (h : RX A h0) : ia_Cn pg G kk_M_type d 0 0 [.ref 117, .long w, .int n] h0 (rx_P h0 (sp_type A w n)) := by
  obtain ⟨F, S, hm, hR⟩ := h
  refine (rm_type hm hR.1.2.1 hR.1.2.2).mono ?_
  rintro rv h' (⟨c, rfl, rfl⟩ | ⟨N, rfl, n1, n8, hc, h⟩)
  · unfold sp_type
    rw [ch_neg c]; exact rx_same ⟨F, S, hm, hR⟩
  · unfold sp_type
    rw [ch_pos ⟨N, rfl, n1, n8, hc⟩, nI_clamp (by omega)]
    rcases h with ⟨c60, rfl, rfl⟩ | ⟨c60, rfl, F', hX, hj, hk⟩
    · rw [if_neg (by omega)]; exact rx_same ⟨F, S, hm, hR⟩
    · rw [if_pos c60]; exact rx_X hX (ri_type hR c60 hj hk)
theorem rx_hold {s : Int32} (hd : 3 ≤ d) (h : RX A h0) : ia_Cn pg G kk_M_hold d 0 0 [.ref 117, .int s] h0 (rx_P h0 (sp_hold A s)) := by
  obtain ⟨F, S, hm, hR⟩ := h
  refine (rm_hold hd hm hR.1.1 hR.1.2.1 hR.1.2.2).mono ?_
  rintro rv h' (⟨c, rfl, rfl⟩ | ⟨i, hi, rfl, F', hX, h⟩)
  · unfold sp_hold
    rw [ch_neg c]; exact rx_same ⟨F, S, hm, hR⟩
  · unfold sp_hold
    rw [ch_pos ⟨i, hi, rfl⟩, nI_clamp (by omega)]
    rcases h with ⟨q, e, rfl, hk⟩ | ⟨e, rfl, hs, hk⟩
    · rw [show tx_k i (aB A) = some q from e]; exact rx_X hX (ri_holdq hR hk)
    · rw [show tx_k i (aB A) = none from e]; exact rx_X hX (ri_hold hR hi hs hk)
theorem rx_begin {fr : Int32} (hd : 1 ≤ d) (h : RX A h0) : ia_Cn pg G kk_M_begin d 0 0 [.ref 117, .int fr] h0 (rx_P h0 (sp_begin A fr)) := by
  obtain ⟨F, S, hm, hR⟩ := h
  refine (rm_begin hd hm (hR.2.1 0 (by omega)) (hR.2.1 1 (by omega))).mono ?_
  rintro rv h' (⟨c, rfl, rfl⟩ | ⟨c, rfl, F', hX, g0, g1, e2, e3, e4, e5, e6, e7, e8, e9, ez, hk⟩)
  · unfold sp_begin
    rw [ch_neg c]; exact rx_same ⟨F, S, hm, hR⟩
  · unfold sp_begin
    rw [ch_pos c]; exact rx_X hX (ri_begin hR g0 g1 ⟨e2, e3, e4, e5, e6, e7, e8, e9⟩ ez hk)
theorem rx_refine {x y v : Int32} (hd : 5 ≤ d) (h : RX A h0) (hA : AI A) : ia_Cn pg G kk_M_refine d 0 0 [.ref 117, .int x, .int y, .int v] h0 (rx_P h0 (sp_refine A x y v)) := by
  obtain ⟨F, S, hm, hR⟩ := h
  have hN := hR.2.2.2.1
  have h5 := hA.2.2.2.2
  obtain ⟨s1, s48, o, o6, s6⟩ := hR.2.2.1
  refine (rm_refine (T := fun n => zT (aN A n)) hd hm (az_tr hN h5) s6 o6 s1 s48 (fun n n1 n2 n3 => ?_) (hR.2.1 0 (by omega)) (hR.2.1 1 (by omega)) (hR.2.1 3 (by omega))).mono ?_
  · have e := (hN n n1 n2).ex.mp n3
    obtain ⟨⟨-, c4, -⟩, ct, -⟩ := (hN n n1 n2).2 e
    exact ⟨ct 0 (by omega), ct 1 (by omega), _, c4, (h5 n n1 n2 e).2.1⟩
  · rintro rv h' (⟨c, rfl, rfl⟩ | ⟨n, w, ⟨n1, n2, rfl, n3, w1, w8, rfl⟩, h⟩)
    · unfold sp_refine
      rw [ch_neg]
      · exact rx_same ⟨F, S, hm, hR⟩
      · rintro ⟨z, w, w1, w8, rfl⟩
        obtain ⟨⟨n1, n2⟩, n3, n4⟩ := nod_in z
        exact c ⟨nod (aN A) x, w, n1, n2, n3, (hN _ n1 n2).ex.mpr n4, w1, w8, rfl⟩
    · have e := (hN n n1 n2).ex.mp n3
      unfold sp_refine
      rw [nod_at n1 n2 e, ch_pos ⟨by omega, w, w1, w8, rfl⟩, nI_clamp (by omega)]
      obtain ⟨⟨-, c4, -⟩, -, -⟩ := (hN n n1 n2).2 e
      have l8 := (h5 n n1 n2 e).2.1
      have l0 : F 4 n = 0 ↔ zL (aN A n) = 0 := by
        rw [c4]; exact nI_eq (b := 0) (by omega) (by omega)
      have sds := az_sd (f0 := aQ A 0) (f1 := aQ A 1) (e := aQ A 3) (w := w) (v := v) hN h5 n1 n2 e
      have oks : rf_ok F (aR A) (kA A n w) (cA A n w v) ↔ rfo (aN A) (aR A) (kA A n w) (cA A n w v) := by
        unfold rf_ok rfo
        rw [az_ct hN 16 (by omega)]
      unfold sp_refat
      rcases h with ⟨c, rfl, rfl⟩ | ⟨⟨c1, c2⟩, h⟩
      · rw [ch_pos]
        · exact rx_same ⟨F, S, hm, hR⟩
        · rcases c with c | c
          · exact Or.inl (fun z => c (l0.mpr z))
          · exact Or.inr (fun z => c (sds.mpr z))
      · have s2 := sds.mp c2
        have l2 := l0.mp c1
        rw [ch_neg (fun z => z.elim (fun y => y l2) (fun y => y s2))]
        rcases h with ⟨k, rfl, F', S', hX, hT, hS, h6⟩ | ⟨k, F', S', N1, N2, hX, hD, rfl, e1, hS, h6⟩
        · rw [ch_neg (fun z => k (oks.mpr z))]
          exact rx_X hX (hR.keep (fun k j hk hj => hT k j hj (by omega)) (hS 0 (by decide) (by decide) (by decide)) (hS 1 (by decide) (by decide) (by decide)) h6)
        · rw [ch_pos (oks.mp k)]
          obtain ⟨r1, r2⟩ := ri_refine hR hA n1 n2 e w1 w8 l2 s2 (oks.mp k) hD (hS 0 (by decide) (by decide) (by decide) (by decide)) e1 h6
          rw [← r2]
          exact rx_X hX r1
theorem rx_prove {x : Int32} (hd : 6 ≤ d) (h : RX A h0) (hA : AI A) : ia_Cn pg G kk_M_prove d 0 0 [.ref 117, .int x] h0 (rx_P h0 (sp_prove A x)) := by
  obtain ⟨F, S, hm, hR⟩ := h
  have hN := hR.2.2.2.1
  have h5 := hA.2.2.2.2
  refine (rm_prove (C := fun n => cL (aN A n)) hd hm (fun n n1 n2 n3 n4 => ?_)).mono ?_
  · have e := (hN n n1 n2).ex.mp n3
    obtain ⟨⟨-, -, -, -, -, c8, -⟩, ct, -⟩ := (hN n n1 n2).2 e
    obtain ⟨-, -, -, -, -, tF, -⟩ := h5 n n1 n2 e
    refine ⟨by rw [cL_len]; exact c8, by rw [cL_len]; exact ncw_le _, fun i U hU => ?_⟩
    obtain ⟨i1, rfl⟩ := cL_get hU
    exact ⟨ct (2 + i) (by omega), (tF (2 + i) (by omega)).1⟩
  · rintro rv h' (⟨c, rfl, rfl⟩ | ⟨n, ⟨n1, n2, rfl, n3⟩, h⟩)
    · unfold sp_prove
      rw [if_pos]
      · exact rx_same ⟨F, S, hm, hR⟩
      · refine Classical.byContradiction fun z => ?_
        obtain ⟨⟨n1, n2⟩, n3, n4⟩ := nod_in z
        exact c ⟨_, n1, n2, n3, (hN _ n1 n2).ex.mpr n4⟩
    · have e := (hN n n1 n2).ex.mp n3
      obtain ⟨⟨-, c4, -⟩, -, -⟩ := (hN n n1 n2).2 e
      have l8 := (h5 n n1 n2 e).2.1
      have l0 : F 4 n = 0 ↔ zL (aN A n) = 0 := by
        rw [c4]; exact nI_eq (b := 0) (by omega) (by omega)
      unfold sp_prove
      rw [nod_at n1 n2 e, if_neg (by omega)]
      rcases h with ⟨c, rfl, rfl⟩ | ⟨c, F', S', hX, hS, h⟩
      · rw [if_pos (l0.mp c)]; exact rx_same ⟨F, S, hm, hR⟩
      · rw [if_neg (fun z => c (l0.mpr z))]
        rcases h with ⟨rfl, hv, e9, hk⟩ | ⟨rfl, i, U, D, hU, hv, hr, hj, hk⟩
        · rw [ch_pos (show vaL (cL (aN A n)) from hv)]
          exact rx_X hX (ri_prove1 hR n1 n2 e9 hS hk)
        · rw [ch_neg (fun z : vaL (cL (aN A n)) => z U (List.mem_of_getElem? hU) D hr.1 hr.2.1)]
          have hp : prd (cL (aN A n)) (fun j => if j < 5 then nI (D j) else 0) := ⟨i, U, D, hU, hv, hr, rfl⟩
          rw [prE_eq hp]
          exact rx_X hX (ri_prove0 hR (fun j hj' => (hj j hj').trans (if_pos hj').symm) hS hk)
theorem rx_refuting {x : Int32} (h : RX A h0) : ia_Cn pg G kk_M_refuting d 0 0 [.ref 117, .int x] h0 (rx_P h0 (sp_refuting A x)) := by
  obtain ⟨F, S, hm, hR⟩ := h
  refine (rm_refuting hm).mono ?_
  rintro rv h' ⟨rfl, ⟨c, rfl⟩ | ⟨j, hj, rfl, rfl⟩⟩
  · unfold sp_refuting
    rw [ch_neg c]; exact rx_same ⟨F, S, hm, hR⟩
  · unfold sp_refuting
    rw [ch_pos ⟨j, hj, rfl⟩, nI_clamp (by omega), hR.2.2.2.2.1 j hj]; exact rx_same ⟨F, S, hm, hR⟩
theorem rx_open (hd : 1 ≤ d) (h : RX A h0) (hA : AI A) : ia_Cn pg G kk_M_open d 0 0 [.ref 117] h0 (rx_P h0 (sp_open A)) := by
  obtain ⟨F, S, hm, hR⟩ := h
  refine (rm_open hd hm).mono ?_
  rintro rv h' ⟨rfl, rfl⟩
  rw [az_os hR.2.2.2.1 hA.2.2.2.2 16 (by omega)]
  exact rx_same ⟨F, S, hm, hR⟩
theorem rx_first (hd : 1 ≤ d) (h : RX A h0) (hA : AI A) : ia_Cn pg G kk_M_first d 0 0 [.ref 117] h0 (rx_P h0 (sp_first A)) := by
  obtain ⟨F, S, hm, hR⟩ := h
  refine (rm_first hd hm).mono ?_
  rintro rv h' ⟨rfl, rfl⟩
  rw [az_fs hR.2.2.2.1 hA.2.2.2.2 16 1 (by omega) (by omega)]
  exact rx_same ⟨F, S, hm, hR⟩
theorem rx_prune {x : Int32} (hd : 1 ≤ d) (h : RX A h0) (hA : AI A) : ia_Cn pg G kk_M_prune d 0 0 [.ref 117, .int x] h0 (rx_P h0 (sp_prune A x)) := by
  obtain ⟨F, S, hm, hR⟩ := h
  have hN := hR.2.2.2.1
  have h5 := hA.2.2.2.2
  refine (rm_prune hd hm (az_tr hN h5) (fun j j1 j2 => ?_)).mono ?_
  · rw [(hN j j1 j2).1]; split; exact Or.inr rfl; exact Or.inl rfl
  · rintro rv h' (⟨c, rfl, rfl⟩ | ⟨n, ⟨n1, n2, rfl, n3⟩, h⟩)
    · unfold sp_prune
      rw [if_pos]
      · exact rx_same ⟨F, S, hm, hR⟩
      · refine Classical.byContradiction fun z => ?_
        obtain ⟨⟨n1, n2⟩, n3, n4⟩ := nod_in z
        exact c ⟨_, n1, n2, n3, (hN _ n1 n2).ex.mpr n4⟩
    · have e := (hN n n1 n2).ex.mp n3
      obtain ⟨⟨-, c4, -⟩, -, -⟩ := (hN n n1 n2).2 e
      have l8 := (h5 n n1 n2 e).2.1
      have l0 : F 4 n = 0 ↔ zL (aN A n) = 0 := by
        rw [c4]; exact nI_eq (b := 0) (by omega) (by omega)
      unfold sp_prune
      rw [nod_at n1 n2 e, if_neg (by omega)]
      rcases h with ⟨c, rfl, rfl⟩ | ⟨c, rfl, F', hX, hw, he, hk⟩
      · rw [if_pos (l0.mp c)]; exact rx_same ⟨F, S, hm, hR⟩
      · rw [if_neg (fun z => c (l0.mpr z)), az_pn hN 16 (by omega)]
        refine rx_X hX (ri_prune hR n1 n2 (fun j j1 j2 => ⟨fun z => (hw j j1 j2).1 ((az_pw hN j1 j2).mpr z), fun z => (hw j j1 j2).2 (fun y => z ((az_pw hN j1 j2).mp y))⟩) ?_ he hk)
        rintro ⟨-, k, k1, k2⟩
        rcases az_up h5 n1 n2 e with u | ⟨u1, u2, u3⟩
        · rw [u, an0 rfl] at k1; omega
        · have r1 := az_rk h5 k _ u1 u2 u3 k1
          have r2 := az_rk h5 1 _ n1 n2 e u1
          rw [k2] at r1
          have r3 : zR (aN A (pP (aN A) n)) + 1 = zR (aN A n) := r2
          omega
theorem rx_node {x y : Int32} (hd : 1 ≤ d) (h : RX A h0) (hA : AI A) : ia_Cn pg G kk_M_node d 0 0 [.ref 117, .int x, .int y] h0 (rx_P h0 (sp_node A x y)) := by
  obtain ⟨F, S, hm, hR⟩ := h
  have hN := hR.2.2.2.1
  have h5 := hA.2.2.2.2
  refine (rm_node hd hm).mono ?_
  rintro rv h' ⟨rfl, ⟨c, rfl⟩ | ⟨n, ⟨n1, n2, rfl, n3⟩, rfl⟩⟩
  · unfold sp_node
    rw [if_pos]
    · exact rx_same ⟨F, S, hm, hR⟩
    · refine Classical.byContradiction fun z => ?_
      obtain ⟨⟨n1, n2⟩, n3, n4⟩ := nod_in z
      exact c ⟨_, n1, n2, n3, (hN _ n1 n2).ex.mpr n4⟩
  · have e := (hN n n1 n2).ex.mp n3
    obtain ⟨⟨c3, c4, c5, c6, -, c8, -⟩, -, -⟩ := (hN n n1 n2).2 e
    unfold sp_node
    rw [nod_at n1 n2 e, if_neg (by omega), show ndv F n y = ndN (aN A n) y by unfold ndv ndN; rw [c3, c4, c5, c6, c8, az_oo hN h5 n1 n2 e]]
    exact rx_same ⟨F, S, hm, hR⟩
theorem tcN_un {N : Nat → nN} {x y z c c' : Int32} (h : tcN N x y z c) (h' : tcN N x y z c') : c' = c := by
  obtain ⟨n, w, j, ⟨a1, a2, rfl, a3⟩, ⟨b1, rfl⟩, ⟨rfl, j1⟩, g⟩ := h
  obtain ⟨n', w', j', ⟨a1', a2', e1, a3'⟩, ⟨b1', e2⟩, ⟨e3, j1'⟩, g'⟩ := h'
  have l1 := ncw_le (zL (N n))
  have l2 := ncw_le (zL (N n'))
  cases (nI_eq (by omega) (by omega)).mp e1
  cases (nI_eq (by omega) (by omega)).mp e2
  cases (nI_eq (by omega) (by omega)).mp e3
  exact Option.some.inj (g'.symm.trans g)
theorem rx_text {x y z : Int32} (hd : 1 ≤ d) (h : RX A h0) : ia_Cn pg G kk_M_text d 0 0 [.ref 117, .int x, .int y, .int z] h0 (rx_P h0 (sp_text A x y z)) := by
  obtain ⟨F, S, hm, hR⟩ := h
  have hN := hR.2.2.2.1
  have eqv : ∀ c, txc F (fun n => zT (aN A n)) (fun n => ncw (zL (aN A n))) x y z c ↔ tcN (aN A) x y z c := by
    intro c
    constructor
    · rintro ⟨n, w, j, ⟨n1, n2, rfl, n3⟩, ⟨w1, rfl, w2⟩, rfl, g⟩
      have e := (hN n n1 n2).ex.mp n3
      have w2' : w < 2 ∨ w - 2 < ncw (zL (aN A n)) := w2
      have hw : w < 2 + ncw (zL (aN A n)) := by omega
      have g : (zT (aN A n) w)[j]? = some c := g
      have hl := ((hN n n1 n2).2 e).2.1 w hw
      have := (List.getElem?_eq_some_iff.mp g).1
      have := hl.2.2
      exact ⟨n, w, j, ⟨n1, n2, rfl, e⟩, ⟨hw, rfl⟩, ⟨rfl, by omega⟩, g⟩
    · rintro ⟨n, w, j, ⟨n1, n2, rfl, n3⟩, ⟨w1, rfl⟩, ⟨rfl, -⟩, g⟩
      have := ncw_le (zL (aN A n))
      exact ⟨n, w, j, ⟨n1, n2, rfl, (hN n n1 n2).ex.mpr n3⟩, ⟨by omega, rfl, (show w < 2 ∨ w - 2 < ncw (zL (aN A n)) by omega)⟩, rfl, g⟩
  refine (rm_text (T := fun n => zT (aN A n)) (nc := fun n => ncw (zL (aN A n))) hd hm (fun n n1 n2 n3 => ?_)).mono ?_
  · have e := (hN n n1 n2).ex.mp n3
    obtain ⟨⟨-, -, -, -, -, c8, -⟩, ct, -⟩ := (hN n n1 n2).2 e
    exact ⟨⟨c8, ncw_le _⟩, fun w w3 hw => ct w (by rcases hw with hw | hw <;> omega)⟩
  · rintro rv h' ⟨rfl, ⟨c, rfl⟩ | ⟨c, hc, rfl⟩⟩
    · unfold sp_text
      rw [chs_no (fun ⟨c', q⟩ => c ⟨c', (eqv c').mpr q⟩)]
      exact rx_same ⟨F, S, hm, hR⟩
    · unfold sp_text
      rw [chs_eq ((eqv c).mp hc) (fun c' q => tcN_un ((eqv c).mp hc) q)]
      exact rx_same ⟨F, S, hm, hR⟩
theorem ri_pb {F F' : Nat → Nat → Int32} {S : Nat → Int32} {h0 h : ia_H} {s e : Nat} (hR : RI A F S) (hp : pb h0 h F S F' s e) (x : Int32) : rx_P h0 (A, x) (some (.int x)) h := by
  obtain ⟨S1, hX, hk, -, -, hS⟩ := hp
  obtain ⟨o, o1, o2⟩ := hR.2.2.1.2.2
  exact rx_X hX (hR.keep (fun k j hk' _ => hk k j (by omega)) (hS 0 (by decide) (by decide)) (hS 1 (by decide) (by decide)) ⟨o, o1, (hS 6 (by decide) (by decide)).trans o2⟩)
theorem rx_program (hd : 4 ≤ d) (h : RX A h0) (hA : AI A) : ia_Cn pg G kk_M_program d 0 0 [.ref 117] h0 (rx_P h0 (sp_program A)) := by
  obtain ⟨F, S, hm, hR⟩ := h
  have hN := hR.2.2.2.1
  have h5 := hA.2.2.2.2
  refine (rm_program hd hm (fun _ => az_kd hN h5) (fun z => az_len hN h5 z)).mono ?_
  rintro rv h' (⟨c, rfl, rfl⟩ | ⟨c, rfl, F', hp, -⟩)
  · unfold sp_program
    rw [ch_neg (fun z => c ((az_isp hN h5).mpr z))]; exact rx_same ⟨F, S, hm, hR⟩
  · unfold sp_program
    rw [ch_pos ((az_isp hN h5).mp c)]
    exact ri_pb hR hp _
theorem inv_un {C : List (Nat × Nat × Nat)} {x y v v' : Int32} (hC : C.length ≤ 80) (h : inv C x y v) (h' : inv C x y v') : v' = v := by
  obtain ⟨i, q, rfl, hq, h⟩ := h
  obtain ⟨i', q', e, hq', h'⟩ := h'
  have l1 := (List.getElem?_eq_some_iff.mp hq).1
  have l2 := (List.getElem?_eq_some_iff.mp hq').1
  cases (nI_eq (by omega) (by omega)).mp e
  cases hq.symm.trans hq'
  rcases h with ⟨rfl, rfl⟩ | ⟨rfl, rfl⟩
  · rcases h' with ⟨-, rfl⟩ | ⟨z, -⟩
    · rfl
    · exact absurd z (by decide)
  · rcases h' with ⟨z, -⟩ | ⟨-, rfl⟩
    · exact absurd z (by decide)
    · rfl
theorem pgN_len {N : Nat → nN} {F : Nat → Nat → Int32} (hN : ∀ n, 1 ≤ n → n ≤ 16 → RN (N n) F n) (hA : ∀ n, 1 ≤ n → n ≤ 16 → AN N n) (h : zE (N 1) = true) : (pgN N).length ≤ 33 := by
  have := az_len hN hA ((hN 1 (by omega) (by omega)).ex.mpr h)
  unfold pgN pgm
  rw [List.length_append]
  show _ + 1 ≤ 33
  omega
theorem rx_instruction {x y : Int32} (hd : 4 ≤ d) (h : RX A h0) (hA : AI A) : ia_Cn pg G kk_M_instruction d 0 0 [.ref 117, .int x, .int y] h0 (rx_P h0 (sp_instruction A x y)) := by
  obtain ⟨F, S, hm, hR⟩ := h
  have hN := hR.2.2.2.1
  have h5 := hA.2.2.2.2
  refine (rm_instruction hd hm (fun _ => az_kd hN h5) (fun z => az_len hN h5 z)).mono ?_
  rintro rv h' (⟨c, rfl, rfl⟩ | ⟨c, hv, F', hp, -⟩)
  · unfold sp_instruction
    rw [ch_neg (fun z => c ((az_isp hN h5).mpr z))]; exact rx_same ⟨F, S, hm, hR⟩
  · unfold sp_instruction
    have c' := (az_isp hN h5).mp c
    have hl := pgN_len hN h5 c'.1
    rw [ch_pos c']
    rcases hv with ⟨n, rfl⟩ | ⟨v, hv, rfl⟩
    · rw [chs_no (P := inv (pgN (aN A)) x y) n]; exact ri_pb hR hp _
    · rw [chs_eq (P := inv (pgN (aN A)) x y) hv (fun v' q => inv_un (C := pgN (aN A)) (by omega) hv q)]; exact ri_pb hR hp _
theorem rx_run {a b c x : Int32} (hd : 4 ≤ d) (h : RX A h0) (hA : AI A) : ia_Cn pg G kk_M_run d 0 0 [.ref 117, .int a, .int b, .int c, .int x] h0 (rx_P h0 (sp_run A a b c x)) := by
  obtain ⟨F, S, hm, hR⟩ := h
  have hN := hR.2.2.2.1
  have h5 := hA.2.2.2.2
  refine (rm_run (gt := fun n => zG (aN A n)) hd hm (fun _ => az_kd hN h5) (fun z => az_len hN h5 z) (fun z => az_cw hN h5 z)).mono ?_
  rintro rv h' (⟨c, rfl, rfl⟩ | ⟨c, n, rfl, F', hp, -⟩ | ⟨c, N, hN1, rfl, rfl, F', S', hX, hk, hS, hj, h3⟩)
  · unfold sp_run
    rw [ch_neg (fun z => c ((az_isp hN h5).mpr z))]; exact rx_same ⟨F, S, hm, hR⟩
  · unfold sp_run
    rw [ch_pos ((az_isp hN h5).mp c), ch_neg n]; exact ri_pb hR hp _
  · unfold sp_run
    rw [ch_pos ((az_isp hN h5).mp c), ch_pos ⟨N, hN1, rfl⟩, nI_clamp (by omega)]
    refine rx_X hX (ri_run hR (fun j hj4 => ?_) hS hk)
    unfold rnW
    by_cases j3 : j < 3
    · rw [if_pos j3]; exact hj j j3
    · rw [if_neg j3, show j = 3 by omega]; exact h3
theorem rx_after {x : Int32} (h : RX A h0) : ia_Cn pg G kk_M_after d 0 0 [.ref 117, .int x] h0 (rx_P h0 (sp_after A x)) := by
  obtain ⟨F, S, hm, hR⟩ := h
  refine (rm_after hm).mono ?_
  rintro rv h' ⟨rfl, ⟨c, rfl⟩ | ⟨j, hj, rfl, rfl⟩⟩
  · unfold sp_after
    rw [ch_neg c]; exact rx_same ⟨F, S, hm, hR⟩
  · unfold sp_after
    rw [ch_pos ⟨j, hj, rfl⟩, nI_clamp (by omega), hR.2.2.2.2.2 j hj]; exact rx_same ⟨F, S, hm, hR⟩
/-- the state at the start -/
def a0N : Nat → nN := fun _ => (false, 0, 0, 0, 0, 0, 0, 0, [], false, fun _ => [])
def a0S : aS := ([], (fun i => if i = 3 then [48] else [84]), a0N, 0, (fun _ => 0), fun _ => 0)
theorem ai_0 : AI a0S := by
  refine ⟨⟨fun c hc => (by cases hc), Nat.zero_le _⟩, fun i hi => ?_, ?_, ⟨?_, fun i hi => ?_, Nat.zero_le _, Or.inl rfl⟩, fun n _ _ e => by cases e⟩
  · show tx_F (if i = 3 then [48] else [84])
    rw [if_neg (by omega)]
    exact fun st => rfl
  · exact fun st => rfl
  · show ¬ (122 : Int32) ∈ [48]
    decide
  · show (if i = 3 then [48] else [84] : List Int32).length ≤ 60
    split <;> exact Nat.le_of_ble_eq_true rfl
theorem rx_init (hd : 1 ≤ d) (h117 : h0.1 117 = some (.inr (8, [.null, .null, .int 0, .null, .null, .null, .null, .null, .null, .null, .null, .null, .null, .null, .int 0, .null, .int 0, .int 0, .null, .null, .null, .null, .int 0, .null, .null, .null, .null, .null, .int 0, .null, .int 0, .int 0]))) (h2 : h0.2 = 118) : ia_Cn pg G kk_M_init d 24 12540 [.ref 117] h0 (fun rv h' => rv = none ∧ RX a0S h' ∧ h'.2 = 142 ∧ ∀ q, q < 117 → h'.1 q = h0.1 q) := by
  refine (rm_init hd h117 h2).mono ?_
  rintro rv h' ⟨rfl, ⟨F, hm, q, q3, z⟩, h142, hk⟩
  refine ⟨rfl, ⟨F, _, hm, ⟨fun j c hc => (by have h2 : ([] : List Int32)[j]? = some c := hc; simp at h2), rfl, Nat.zero_le _⟩, fun i hi => ?_, ⟨rfl, Nat.zero_le _, 0, by omega, rfl⟩, fun n _ _ => ⟨z 2 n (by omega), fun e => by cases e⟩, fun j _ => z 17 j (by omega), fun j _ => z 23 j (by omega)⟩, h142, hk⟩
  show tm_s F i (if i = 3 then [48] else [84])
  by_cases i3 : i = 3
  · rw [if_pos i3, i3]; exact q3
  · rw [if_neg i3]; exact q i (by omega)
end RX4
