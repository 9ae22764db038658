/-! the table of methods is what stands in the Statement: the check, as a program -/
def ia_bM (P : ia_P) (M : ia_M) : Bool := plainName (ia_my M).cls && ((ia_mw M).all ia_wok && ((ia_mv M).all ia_nok && (ia_mo M).all fun q => ia_dec (ia_mb M) q && (ia_rok P M q && ia_cok P M q)))
theorem ia_bM_use {P : ia_P} {M : ia_M} (h : ia_bM P M = true) : plainName (ia_my M).cls = true ∧ (∀ w ∈ ia_mw M, ia_wok w = true) ∧ (∀ w ∈ ia_mv M, ia_nok w = true) ∧ ∀ q ∈ ia_mo M, ia_dec (ia_mb M) q = true ∧ ia_rok P M q = true ∧ ia_cok P M q = true := by
  obtain ⟨h1, h⟩ := Bool.and_eq_true_iff.mp h
  obtain ⟨h2, h⟩ := Bool.and_eq_true_iff.mp h
  obtain ⟨h3, h4⟩ := Bool.and_eq_true_iff.mp h
  refine ⟨h1, List.all_eq_true.mp h2, List.all_eq_true.mp h3, fun q hq => ?_⟩
  obtain ⟨g1, g⟩ := Bool.and_eq_true_iff.mp (List.all_eq_true.mp h4 q hq)
  obtain ⟨g2, g3⟩ := Bool.and_eq_true_iff.mp g
  exact ⟨g1, g2, g3⟩
theorem ia_ok_of {P : ia_P} (hM : ∀ M ∈ ia_Pm P, ia_bM P M = true) (hC : ia_okC P) (hw : ∀ r ∈ ia_Pc P, ∀ w ∈ u_ws r.1 r.2.1 r.2.2, ia_wok w = true) : ia_okP P ∧ ia_okQ P := by
  refine ⟨⟨⟨fun M h => ⟨(ia_bM_use (hM M h)).2.1, (ia_bM_use (hM M h)).2.2.1⟩, hw⟩, hC, fun M h => ⟨(ia_bM_use (hM M h)).1, fun q hq => ⟨((ia_bM_use (hM M h)).2.2.2 q hq).1, ((ia_bM_use (hM M h)).2.2.2 q hq).2.1⟩⟩⟩, fun M h q hq => ((ia_bM_use (hM M h)).2.2.2 q hq).2.2⟩
def ia_bC (P : ia_P) : Bool := (List.range (ia_Pc P).length).all fun ci => match (ia_Pc P)[ci]?, (ia_Pt P)[ci]? with
  | some r, some ts => decide (ts.length = r.2.2) && ((List.range r.2.2).all (fun k => decide (parseFieldDescriptor (r.2.1 k).2.2.1 = ts[k]?)) && ((List.range r.2.2).all (fun a => (List.range r.2.2).all fun b => decide (a = b) || decide ((r.2.1 a).2.1 ≠ (r.2.1 b).2.1)) && (u_ws r.1 r.2.1 r.2.2).all ia_wok))
  | _, _ => false
theorem ia_bC_use {P : ia_P} (h : ia_bC P = true) : ia_okC P ∧ ∀ r ∈ ia_Pc P, ∀ w ∈ u_ws r.1 r.2.1 r.2.2, ia_wok w = true := by
  have h1 := List.all_eq_true.mp h
  have key : ∀ (ci : Nat) (r : vw_C), (ia_Pc P)[ci]? = some r → ∃ ts, (ia_Pt P)[ci]? = some ts ∧ (decide (ts.length = r.2.2) && ((List.range r.2.2).all (fun k => decide (parseFieldDescriptor (r.2.1 k).2.2.1 = ts[k]?)) && ((List.range r.2.2).all (fun a => (List.range r.2.2).all fun b => decide (a = b) || decide ((r.2.1 a).2.1 ≠ (r.2.1 b).2.1)) && (u_ws r.1 r.2.1 r.2.2).all ia_wok))) = true := by
    intro ci r hr
    have h2 := h1 ci (List.mem_range.mpr (List.getElem?_eq_some_iff.mp hr).1)
    rw [hr] at h2
    cases ht : (ia_Pt P)[ci]? with
    | none => rw [ht] at h2; cases h2
    | some ts => rw [ht] at h2; exact ⟨ts, rfl, h2⟩
  refine ⟨fun ci r hr => ?_, fun r hr w hw => ?_⟩
  · obtain ⟨ts, ht, h2⟩ := key ci r hr
    obtain ⟨g1, h3⟩ := Bool.and_eq_true_iff.mp h2
    obtain ⟨g2, h4⟩ := Bool.and_eq_true_iff.mp h3
    obtain ⟨g3, -⟩ := Bool.and_eq_true_iff.mp h4
    have g1 := of_decide_eq_true g1
    refine ⟨ts, ht, g1, fun k t hk => ?_, fun a ha b hb hab => ?_⟩
    · have hlt : k < r.2.2 := by rw [← g1]; exact (List.getElem?_eq_some_iff.mp hk).1
      have := of_decide_eq_true (List.all_eq_true.mp g2 k (List.mem_range.mpr hlt))
      rw [this, hk]
    · have h5 := List.all_eq_true.mp (List.all_eq_true.mp g3 a (List.mem_range.mpr ha)) b (List.mem_range.mpr hb)
      rcases Bool.or_eq_true_iff.mp h5 with h6 | h6
      · exact absurd (of_decide_eq_true h6) hab
      · exact of_decide_eq_true h6
  · obtain ⟨ci, hci⟩ := List.getElem?_of_mem hr
    obtain ⟨ts, ht, h2⟩ := key ci r hci
    obtain ⟨g1, h3⟩ := Bool.and_eq_true_iff.mp h2
    obtain ⟨g2, h4⟩ := Bool.and_eq_true_iff.mp h3
    obtain ⟨-, g4⟩ := Bool.and_eq_true_iff.mp h4
    exact List.all_eq_true.mp g4 w hw
theorem pg_bC : ia_bC pg = true := by decide +kernel
