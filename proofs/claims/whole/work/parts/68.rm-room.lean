/-! THE REFERENCE, 9: make, hasRoom, freeNode, child. -/
section MK
variable {G : ia_G} {h0 h : ia_H} {d o : Nat} {F : Nat → Nat → Int32} {S : Nat → Int32}
theorem mk_make {n : Nat} {p q f0 f1 e : List Int32} {w : Nat} {v : Int32} (hd : 4 ≤ d) (hm : rm h0 F S) (hS : S 6 = nI o) (ho : o < 6) (hw1 : 1 ≤ w) (hw8 : w ≤ 8) (hn1 : 1 ≤ n) (hn : n ≤ 16) (ht0 : tm_n F n 0 p) (ht1 : tm_n F n 1 q) (hq0 : tm_s F 0 f0) (hq1 : tm_s F 1 f1) (hq3 : tm_s F 3 e) : ia_Cn pg G kk_M_make d 0 0 [.ref 117, .int (nI n), .int (nI w), .int v] h0 (fun rv h' => rv = none ∧ mk_R h0 h' F S (rf_k w p q f0 f1 e) (rf_c w v p q f0 f1 e)) := by
  have hX := hm.X
  have st : ∀ Post, (∀ h', mk h0 h' F S (fun _ => none) 0 0 o → ia_Sx pg G kk_M_make d 0 0 10 [.ref 117, .int (nI n), .int (nI w), .int v] [] h' Post) → ia_Cn pg G kk_M_make d 0 0 [.ref 117, .int (nI n), .int (nI w), .int v] h0 Post := by
    intro Post kk
    refine jd_met (ls := [.ref 117, .int (nI n), .int (nI w), .int v]) rfl rfl rfl ?_
    refine ia_go 2 rfl ?_
    refine rm_put (sk := 3) rfl hX rfl rfl (fun h1 hX => ?_)
    refine ia_go 2 rfl ?_
    refine rm_put (sk := 2) rfl hX rfl rfl (fun h1 hX => ?_)
    refine kk h1 ⟨F, _, hX, tm_F.rf, fun k k1 k2 k3 => ?_, rfl, rfl, hS, ho, fun i U h => by cases h⟩
    unfold rm_s
    rw [if_neg k1, if_neg k2]
  refine st _ (fun h1 hM => ?_)
  have hw : w = 1 ∨ w = 2 ∨ w = 3 ∨ w = 4 ∨ w = 5 ∨ w = 6 ∨ w = 7 ∨ w = 8 := by omega
  rcases hw with rfl | rfl | rfl | rfl | rfl | rfl | rfl | rfl
  ·
    refine ia_go 3 rfl ?_
    rw [if_pos (by decide)]
    obtain ⟨S9, q9⟩ := hM.o
    refine ia_go 1 rfl ?_
    refine jd_cV 117 [] [] 0 0 (d' := d - 1) rfl rfl rfl q9 rfl rfl (by omega) (by omega) (by omega) (mk_cond (by omega) hM (by omega)) ?_
    rintro rv h1 ⟨rfl, hM⟩
    obtain ⟨S9, q9⟩ := hM.o
    refine ia_go 3 rfl ?_
    refine jd_cV 117 [.int (nI n), .int (nI 0)] [] 0 0 (d' := d - 1) rfl rfl rfl q9 rfl rfl (by omega) (by omega) (by omega) (mk_node (by omega) hM rfl hn1 hn (by omega) ht0) ?_
    rintro rv h1 ⟨rfl, hM⟩
    refine ia_go 3 rfl ?_
    rw [if_neg (fun z => z (by decide))]
    obtain ⟨S9, q9⟩ := hM.o
    refine ia_go 3 rfl ?_
    refine jd_cV 117 [.int (nI n), .int (nI 1)] [] 0 0 (d' := d - 1) rfl rfl rfl q9 rfl rfl (by omega) (by omega) (by omega) (mk_node (by omega) hM rfl hn1 hn (by omega) ht1) ?_
    rintro rv h1 ⟨rfl, hM⟩
    refine ia_go 1 rfl ?_
    refine jd_rv0 rfl rfl rfl ⟨rfl, ?_⟩
    refine ⟨_, _, _, hM, rfl, ?_, ?_⟩
    all_goals
      intro i U h
      rcases i with _ | _ | _ | _ | i
      all_goals (first | (simp [rf_k, rf_c] at h; done) | (simp [rf_k, rf_c] at h; subst h; simp [mu, List.append_assoc]; done))
  ·
    refine ia_go 3 rfl ?_
    rw [if_neg (by decide)]
    refine ia_go 3 rfl ?_
    rw [if_neg (fun z => z (by decide))]
    obtain ⟨S9, q9⟩ := hM.o
    refine ia_go 1 rfl ?_
    refine jd_cV 117 [] [] 0 0 (d' := d - 1) rfl rfl rfl q9 rfl rfl (by omega) (by omega) (by omega) (mk_cond (by omega) hM (by omega)) ?_
    rintro rv h1 ⟨rfl, hM⟩
    obtain ⟨S9, q9⟩ := hM.o
    refine ia_go 3 rfl ?_
    refine jd_cV 117 [.int (nI n), .int (nI 0)] [] 0 0 (d' := d - 1) rfl rfl rfl q9 rfl rfl (by omega) (by omega) (by omega) (mk_node (by omega) hM rfl hn1 hn (by omega) ht0) ?_
    rintro rv h1 ⟨rfl, hM⟩
    refine ia_go 3 rfl ?_
    rw [if_pos (by decide)]
    obtain ⟨S9, q9⟩ := hM.o
    refine ia_go 5 rfl ?_
    refine jd_cV 117 [.int (nI n), .int (97 + v)] [] 0 0 (d' := d - 1) rfl rfl rfl q9 rfl rfl (by omega) (by omega) (by omega) (mk_repl (by omega) hM rfl hn1 hn ht1 hq3) ?_
    rintro rv h1 ⟨rfl, hM⟩
    refine ia_go 1 rfl ?_
    refine jd_rv0 rfl rfl rfl ⟨rfl, ?_⟩
    refine ⟨_, _, _, hM, rfl, ?_, ?_⟩
    all_goals
      intro i U h
      rcases i with _ | _ | _ | _ | i
      all_goals (first | (simp [rf_k, rf_c] at h; done) | (simp [rf_k, rf_c] at h; subst h; simp [mu, List.append_assoc]; done))
  ·
    refine ia_go 3 rfl ?_
    rw [if_neg (by decide)]
    refine ia_go 3 rfl ?_
    rw [if_pos (by decide)]
    refine ia_go 3 rfl ?_
    rw [if_neg (fun z => z (by decide))]
    obtain ⟨S9, q9⟩ := hM.o
    refine ia_go 2 rfl ?_
    refine jd_cV 117 [.int (nI n)] [] 0 0 (d' := d - 1) rfl rfl rfl q9 rfl rfl (by omega) (by omega) (by omega) (mk_seq (by omega) hM hn1 hn ht0 ht1 hq0 hq1 hq3) ?_
    rintro rv h2 ⟨rfl, hR⟩
    refine ia_go 1 rfl ?_
    exact jd_rv0 rfl rfl rfl ⟨rfl, hR⟩
  ·
    refine ia_go 3 rfl ?_
    rw [if_neg (by decide)]
    refine ia_go 3 rfl ?_
    rw [if_pos (by decide)]
    refine ia_go 3 rfl ?_
    rw [if_pos (by decide)]
    refine ia_go 3 rfl ?_
    rw [if_neg (fun z => z (by decide))]
    obtain ⟨S9, q9⟩ := hM.o
    refine ia_go 2 rfl ?_
    refine jd_cV 117 [.int (nI n)] [] 0 0 (d' := d - 1) rfl rfl rfl q9 rfl rfl (by omega) (by omega) (by omega) (mk_alt (by omega) hM hn1 hn ht0 ht1 hq0 hq1 hq3) ?_
    rintro rv h2 ⟨rfl, hR⟩
    refine ia_go 1 rfl ?_
    exact jd_rv0 rfl rfl rfl ⟨rfl, hR⟩
  ·
    refine ia_go 3 rfl ?_
    rw [if_neg (by decide)]
    refine ia_go 3 rfl ?_
    rw [if_pos (by decide)]
    refine ia_go 3 rfl ?_
    rw [if_pos (by decide)]
    refine ia_go 3 rfl ?_
    rw [if_pos (by decide)]
    refine ia_go 3 rfl ?_
    rw [if_neg (fun z => z (by decide))]
    obtain ⟨S9, q9⟩ := hM.o
    refine ia_go 2 rfl ?_
    refine jd_cV 117 [.int (nI n)] [] 0 0 (d' := d - 1) rfl rfl rfl q9 rfl rfl (by omega) (by omega) (by omega) (mk_loop (by omega) hM hn1 hn ht0 ht1 hq0 hq1 hq3) ?_
    rintro rv h2 ⟨rfl, hR⟩
    refine ia_go 1 rfl ?_
    exact jd_rv0 rfl rfl rfl ⟨rfl, hR⟩
  ·
    refine ia_go 3 rfl ?_
    rw [if_neg (by decide)]
    refine ia_go 3 rfl ?_
    rw [if_pos (by decide)]
    refine ia_go 3 rfl ?_
    rw [if_pos (by decide)]
    refine ia_go 3 rfl ?_
    rw [if_pos (by decide)]
    refine ia_go 3 rfl ?_
    rw [if_pos (by decide)]
    obtain ⟨S9, q9⟩ := hM.o
    refine ia_go 3 rfl ?_
    refine jd_cV 117 [.int (nI n), .int 6] [] 0 0 (d' := d - 1) rfl rfl rfl q9 rfl rfl (by omega) (by omega) (by omega) (mk_one6 (by omega) hM hn1 hn ht0 ht1 hq0 hq1 hq3) ?_
    rintro rv h2 ⟨rfl, hR⟩
    exact jd_rv0 rfl rfl rfl ⟨rfl, hR⟩
  ·
    refine ia_go 3 rfl ?_
    rw [if_neg (by decide)]
    refine ia_go 3 rfl ?_
    rw [if_pos (by decide)]
    refine ia_go 3 rfl ?_
    rw [if_pos (by decide)]
    refine ia_go 3 rfl ?_
    rw [if_pos (by decide)]
    refine ia_go 3 rfl ?_
    rw [if_pos (by decide)]
    obtain ⟨S9, q9⟩ := hM.o
    refine ia_go 3 rfl ?_
    refine jd_cV 117 [.int (nI n), .int 7] [] 0 0 (d' := d - 1) rfl rfl rfl q9 rfl rfl (by omega) (by omega) (by omega) (mk_one7 (by omega) hM hn1 hn ht0 ht1 hq0 hq1 hq3) ?_
    rintro rv h2 ⟨rfl, hR⟩
    exact jd_rv0 rfl rfl rfl ⟨rfl, hR⟩
  ·
    refine ia_go 3 rfl ?_
    rw [if_neg (by decide)]
    refine ia_go 3 rfl ?_
    rw [if_pos (by decide)]
    refine ia_go 3 rfl ?_
    rw [if_pos (by decide)]
    refine ia_go 3 rfl ?_
    rw [if_pos (by decide)]
    refine ia_go 3 rfl ?_
    rw [if_pos (by decide)]
    obtain ⟨S9, q9⟩ := hM.o
    refine ia_go 3 rfl ?_
    refine jd_cV 117 [.int (nI n), .int 8] [] 0 0 (d' := d - 1) rfl rfl rfl q9 rfl rfl (by omega) (by omega) (by omega) (mk_one8 (by omega) hM hn1 hn ht0 ht1 hq0 hq1 hq3) ?_
    rintro rv h2 ⟨rfl, hR⟩
    exact jd_rv0 rfl rfl rfl ⟨rfl, hR⟩
end MK
