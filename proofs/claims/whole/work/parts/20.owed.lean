/-! U: the relation, and what is owed -/
def i_Rel (_ : Nat) (u : SX) (v : SY) : Prop :=
  ∃ (N : Nat) (on w bm hm : Nat → Int32) (x y z any : Int32) (a : Nat → Int32), u = (nI N, on, w, bm, hm) ∧ v = (nI N, x, y, z, any, on, w, a) ∧ 0 < N ∧ N ≤ 6 ∧ rb_OK N on
theorem i_up {k : Nat} {u : SX} {v : SY} (h : i_Rel k u v) : i_Rel (k + 4) u v := h
theorem rb_mk {k N : Nat} {on w bm hm : Nat → Int32} {x y z any : Int32} {a : Nat → Int32} (h0 : 0 < N) (hN : N ≤ 6) (h : rb_OK N on) : i_Rel k (nI N, on, w, bm, hm) (nI N, x, y, z, any, on, w, a) :=
  ⟨N, on, w, bm, hm, x, y, z, any, a, rfl, rfl, h0, hN, h⟩
theorem rb_new {N : Nat} (h0 : 0 < N) (hN : N ≤ 6) : i_Rel 1 (nI N, (fun _ => 0), rb_on1 36, (fun _ => 0), (fun _ => 0)) (nI N, 0, 0, 0, 0, (fun _ => 0), rb_on1 36, (fun _ => 0)) :=
  rb_mk h0 hN ⟨fun _ => Or.inl rfl, fun _ _ _ _ _ => rfl⟩
theorem i_vc0 (k0 : Int32) : wpX_init (fun u => wpY_init (fun v => i_Rel 1 u v) k0) k0 := by
  rcases rb_size k0 with ⟨h1, h2, N, h0, hN, rfl⟩ | ⟨h1, h2⟩ | h1
  · exact br_t h1 (br_t h2 (xb_init64 (br_t h1 (br_t h2 (yb_init55 (rb_new h0 hN))))))
  · exact br_t h1 (br_f h2 (xb_init64 (br_t h1 (br_f h2 (yb_init55 (rb_new (N := 6) (by decide) (by decide)))))))
  · exact br_f h1 (xb_init64 (br_f h1 (yb_init55 (rb_new (N := 1) (by decide) (by decide)))))
theorem i_vc_set {k : Nat} {u : SX} {v : SY} (I : i_Rel k u v) (hk : k + 4 ≤ 2049) (v1 : Int32) (v2 : Int32) : wpX_set (fun r u' => wpY_set (fun r' v' => r' = r ∧ i_Rel (k + 4) u' v') v v1 v2) u v1 v2 := by
  obtain ⟨N, on, w, bm, hm, x, y, z, any, a, rfl, rfl, h0, hN, hO⟩ := I
  by_cases q : ∃ r c, r < N ∧ c < N ∧ v1 = nI (6 * r + c)
  · obtain ⟨r, c, hr, hc, rfl⟩ := q
    exact xb_set hN hr hc (yb_set hN hr hc ⟨rfl, rb_mk h0 hN (rb_OK_set hO hr hc hN)⟩)
  · unfold wpX_set wpY_set
    dsimp only
    exact xb_cell0 hN q (br_t rfl (yb_noCell1 hN q (br_f (by decide) ⟨rfl, rb_mk h0 hN hO⟩)))
theorem i_vc_weight {k : Nat} {u : SX} {v : SY} (I : i_Rel k u v) (hk : k + 4 ≤ 2049) (v1 : Int32) (v2 : Int32) : wpX_weight (fun r u' => wpY_weight (fun r' v' => r' = r ∧ i_Rel (k + 4) u' v') v v1 v2) u v1 v2 := by
  obtain ⟨N, on, w, bm, hm, x, y, z, any, a, rfl, rfl, h0, hN, hO⟩ := I
  unfold wpX_weight wpY_weight
  dsimp only
  by_cases q : ∃ r c, r < N ∧ c < N ∧ v1 = nI (6 * r + c)
  · obtain ⟨r, c, hr, hc, rfl⟩ := q
    exact xb_cell1 hN hr hc (br_f (by decide) ⟨vp_in_nI (by omega) (by decide), nm_e (yb_noCell0 hN hr hc (br_t rfl ⟨vp_in_nI (by omega) (by decide), nm_e ⟨rfl, rb_mk h0 hN hO⟩⟩))⟩)
  · exact xb_cell0 hN q (br_t rfl (yb_noCell1 hN q (br_f (by decide) ⟨rfl, rb_mk h0 hN hO⟩)))
theorem rb_c1_off {N : Nat} {on : Nat → Int32} (h : rb_OK N on) : ∀ r c, r < 6 → c < 6 → (N ≤ r ∨ N ≤ c) → rb_c1 on (6 * r + c) = 0 := fun r c hr hc ho => if_pos (h.2 r c hr hc ho)
theorem i_vc_complement {k : Nat} {u : SX} {v : SY} (I : i_Rel k u v) (hk : k + 4 ≤ 2049) : wpX_complement (fun r u' => wpY_complement (fun r' v' => r' = r ∧ i_Rel (k + 4) u' v') v) u := by
  obtain ⟨N, on, w, bm, hm, x, y, z, any, a, rfl, rfl, h0, hN, hO⟩ := I
  have hO' := rb_OK_cp hO
  exact xb_complement hN (yb_complement hN hO ⟨rb_s36 hN (rb_c1_off hO'), rb_mk h0 hN hO'⟩)
theorem i_vc_exchange {k : Nat} {u : SX} {v : SY} (I : i_Rel k u v) (hk : k + 4 ≤ 2049) (v1 : Int32) (v2 : Int32) : wpX_exchange (fun r u' => wpY_exchange (fun r' v' => r' = r ∧ i_Rel (k + 4) u' v') v v1 v2) u v1 v2 := by
  obtain ⟨N, on, w, bm, hm, x, y, z, any, a, rfl, rfl, h0, hN, hO⟩ := I
  by_cases q : (∃ k, k < N ∧ v1 = nI k) ∧ ∃ k, k < N ∧ v2 = nI k
  · obtain ⟨⟨i, hi, rfl⟩, j, hj, rfl⟩ := q
    exact xb_exchange hN hi hj (yb_exchange hN hi hj ⟨rfl, rb_mk h0 hN (rb_OK_ex hN hi hj hO N (Nat.le_refl N))⟩)
  · exact xb_exchange0 hN q (yb_exchange1 hN q ⟨rfl, rb_mk h0 hN hO⟩)
theorem i_vc_turn {k : Nat} {u : SX} {v : SY} (I : i_Rel k u v) (hk : k + 4 ≤ 2049) : wpX_turn (fun r u' => wpY_turn (fun r' v' => r' = r ∧ i_Rel (k + 4) u' v') v) u := by
  obtain ⟨N, on, w, bm, hm, x, y, z, any, a, rfl, rfl, h0, hN, hO⟩ := I
  refine xb_turn hN hO.1 (fun on1 w1 g1 g2 => yb_turn hN hO.1 (fun on2 w2 g3 g4 => ⟨rfl, ?_⟩))
  rw [rb_TI_u g3 g1, rb_TI_u g4 g2]
  refine rb_mk h0 hN ⟨rb_TI_P (P := fun x => x = 0 ∨ x = 1) g1 hO.1, fun r c hr hc ho => ?_⟩
  rw [(g1.1 r c hr hc).2 (by unfold rb_DF; omega)]
  exact hO.2 r c hr hc ho
theorem i_vc_cells {k : Nat} {u : SX} {v : SY} (I : i_Rel k u v) (hk : k + 4 ≤ 2049) : wpX_cells (fun r => wpY_cells (fun r' => r' = r ∧ i_Rel (k + 4) u v) v) u := by
  obtain ⟨N, on, w, bm, hm, x, y, z, any, a, rfl, rfl, h0, hN, hO⟩ := I
  unfold wpX_cells
  dsimp only
  exact xb_countCells hN (yb_cells ⟨rb_s36 hN (rb_c1_off hO), rb_mk h0 hN hO⟩)
theorem i_vc_rooks {k : Nat} {u : SX} {v : SY} (I : i_Rel k u v) (hk : k + 4 ≤ 2049) (v1 : Int32) : wpX_rooks (fun r u' => wpY_rooks (fun r' v' => r' = r ∧ i_Rel (k + 4) u' v') v v1) u v1 := by
  obtain ⟨N, on, w, bm, hm, x, y, z, any, a, rfl, rfl, h0, hN, hO⟩ := I
  by_cases q : ∃ k, k ≤ N ∧ v1 = nI k
  · obtain ⟨j, hj, rfl⟩ := q
    exact xb_rooks hN hj (fun bm' => yb_rooks hN h0 hj (fun x y z any a => ⟨rfl, rb_mk h0 hN hO⟩))
  · exact xb_rooks0 hN q (yb_rooks1 hN q ⟨rfl, rb_mk h0 hN hO⟩)
theorem i_vc_hits {k : Nat} {u : SX} {v : SY} (I : i_Rel k u v) (hk : k + 4 ≤ 2049) (v1 : Int32) : wpX_hits (fun r u' => wpY_hits (fun r' v' => r' = r ∧ i_Rel (k + 4) u' v') v v1) u v1 := by
  obtain ⟨N, on, w, bm, hm, x, y, z, any, a, rfl, rfl, h0, hN, hO⟩ := I
  by_cases q : ∃ k, k ≤ N ∧ v1 = nI k
  · obtain ⟨j, hj, rfl⟩ := q
    exact xb_hits hN h0 hj (fun hm' => yb_hits hN h0 hj (fun x y z any a => ⟨rfl, rb_mk h0 hN hO⟩))
  · exact xb_hits0 hN q (yb_hits1 hN q ⟨rfl, rb_mk h0 hN hO⟩)
theorem i_vc_through {k : Nat} {u : SX} {v : SY} (I : i_Rel k u v) (hk : k + 4 ≤ 2049) (v1 : Int32) (v2 : Int32) : wpX_through (fun r u' => wpY_through (fun r' v' => r' = r ∧ i_Rel (k + 4) u' v') v v1 v2) u v1 v2 := by
  obtain ⟨N, on, w, bm, hm, x, y, z, any, a, rfl, rfl, h0, hN, hO⟩ := I
  by_cases q : (∃ r c, r < N ∧ c < N ∧ v1 = nI (6 * r + c)) ∧ ∃ k, k ≤ N ∧ v2 = nI k
  · obtain ⟨⟨r, c, hr, hc, rfl⟩, j, hj, rfl⟩ := q
    exact xb_through hN hr hc hj (fun bm' => yb_through hN h0 hj hr hc (fun x y z any a => ⟨rfl, rb_mk h0 hN hO⟩))
  · exact xb_through0 hN q (yb_through1 hN q ⟨rfl, rb_mk h0 hN hO⟩)
theorem i_vc_sum {k : Nat} {u : SX} {v : SY} (I : i_Rel k u v) (hk : k + 4 ≤ 2049) (v1 : Int32) : wpX_sum (fun r u' => wpY_sum (fun r' v' => r' = r ∧ i_Rel (k + 4) u' v') v v1) u v1 := by
  obtain ⟨N, on, w, bm, hm, x, y, z, any, a, rfl, rfl, h0, hN, hO⟩ := I
  by_cases q : ∃ k, k ≤ N ∧ v1 = nI k
  · obtain ⟨j, hj, rfl⟩ := q
    exact xb_sum hN hj (fun bm' => yb_sum hN h0 hj (fun x y z any a => ⟨rfl, rb_mk h0 hN hO⟩))
  · exact xb_sum0 hN q (yb_sum1 hN q ⟨rfl, rb_mk h0 hN hO⟩)
theorem i_vc_signedSum {k : Nat} {u : SX} {v : SY} (I : i_Rel k u v) (hk : k + 4 ≤ 2049) : wpX_signedSum (fun r u' => wpY_signedSum (fun r' v' => r' = r ∧ i_Rel (k + 4) u' v') v) u := by
  obtain ⟨N, on, w, bm, hm, x, y, z, any, a, rfl, rfl, h0, hN, hO⟩ := I
  exact xb_signedSum hN h0 (fun bm' => yb_signedSum hN h0 (fun x y z any a => ⟨rfl, rb_mk h0 hN hO⟩))
theorem i_vc_most {k : Nat} {u : SX} {v : SY} (I : i_Rel k u v) (hk : k + 4 ≤ 2049) : wpX_most (fun r u' => wpY_most (fun r' v' => r' = r ∧ i_Rel (k + 4) u' v') v) u := by
  obtain ⟨N, on, w, bm, hm, x, y, z, any, a, rfl, rfl, h0, hN, hO⟩ := I
  obtain ⟨K, hK⟩ := rb_most_ex N (rb_B on)
  exact xb_most hN hK (fun bm' => yb_most hN h0 hK (fun x y z any a => ⟨rfl, rb_mk h0 hN hO⟩))
theorem i_vc_lines {k : Nat} {u : SX} {v : SY} (I : i_Rel k u v) (hk : k + 4 ≤ 2049) : wpX_lines (fun r => wpY_lines (fun r' => r' = r ∧ i_Rel (k + 4) u v) v) u := by
  obtain ⟨N, on, w, bm, hm, x, y, z, any, a, rfl, rfl, h0, hN, hO⟩ := I
  refine xb_lines hN (fun lx x0 x1 x2 => yb_lines hN (fun ly y1 y2 => ⟨?_, rb_mk h0 hN hO⟩))
  rw [rb_lines hN x0 x1 x2 y1 y2]
theorem rb_nd_off {N K : Nat} {on : Nat → Int32} (h : rb_OK N on) : ∀ r c, r < 6 → c < 6 → (N ≤ r ∨ N ≤ c) → rb_nd N on K (6 * r + c) = 0 := fun r c hr hc ho => if_pos (h.2 r c hr hc ho)
theorem i_vc_needed {k : Nat} {u : SX} {v : SY} (I : i_Rel k u v) (hk : k + 4 ≤ 2049) : wpX_needed (fun r u' => wpY_needed (fun r' v' => r' = r ∧ i_Rel (k + 4) u' v') v) u := by
  obtain ⟨N, on, w, bm, hm, x, y, z, any, a, rfl, rfl, h0, hN, hO⟩ := I
  obtain ⟨K, hK⟩ := rb_most_ex N (rb_B on)
  exact xb_needed hN hK (fun bm' => yb_needed hN h0 hK hO.2 (fun x y z any a => ⟨rb_s36 hN (rb_nd_off hO), rb_mk h0 hN hO⟩))
theorem i_vc_column {k : Nat} {u : SX} {v : SY} (I : i_Rel k u v) (hk : k + 4 ≤ 2049) (v1 : Int32) (v2 : Int32) (v3 : Int32) : wpX_column (fun r u' => wpY_column (fun r' v' => r' = r ∧ i_Rel (k + 4) u' v') v v1 v2 v3) u v1 v2 v3 := by
  obtain ⟨N, on, w, bm, hm, x, y, z, any, a, rfl, rfl, h0, hN, hO⟩ := I
  by_cases q : (∃ k, k ≤ N ∧ v1 = nI k) ∧ ∃ k, k < N ∧ v3 = nI k
  · obtain ⟨⟨j, hj, rfl⟩, r, hr, rfl⟩ := q
    by_cases hv : v2 < 0
    · exact xb_columnN hN hj hr hv (yb_columnN hN hj hr hv ⟨rfl, rb_mk h0 hN hO⟩)
    · obtain ⟨i, hi, rfl⟩ := nI_of hv
      refine xb_column hN hj hr hi (fun p hp bm' => yb_column hN h0 hj hr hi (fun p' hp' x y z any a => ⟨?_, rb_mk h0 hN hO⟩) (fun hp' => ?_)) (fun hp bm' => yb_column hN h0 hj hr hi (fun p' hp' => ?_) (fun hp' x y z any a => ⟨rfl, rb_mk h0 hN hO⟩))
      · rw [hp] at hp'
        rw [Option.some.inj hp']
      · rw [hp] at hp'
        exact absurd hp' (by simp)
      · rw [hp] at hp'
        exact absurd hp' (by simp)
  · exact xb_column0 hN q (yb_column1 hN q ⟨rfl, rb_mk h0 hN hO⟩)
