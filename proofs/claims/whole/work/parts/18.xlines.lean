/-! S: the class: lines, column -/
theorem xb_outside {post : Int32 → Prop} {N R : Nat} {on w bm hm : Nat → Int32} (hN : N ≤ 6) (hR : R < 2 ^ N) (h : ∀ o, rb_out N (rb_B on) R o → post (nI o)) : wpX_columnsOutside post (nI N, on, w, bm, hm) (nI R) := by
  have h6 := rb_p6 hN
  have hB : ∀ q, rb_B on q = true ↔ ¬ on q = 0 := fun q => by unfold rb_B; rw [decide_eq_true_eq]
  have In : ∀ (J : Int32 → Int32 → Prop) (r : Nat), r < N → ∀ (o0 : Nat),
      (∀ o, o < 2 ^ N → (∀ c, c < N → (o.testBit c = true ↔ (o0.testBit c = true ∨ (R.testBit r = false ∧ rb_B on (6 * r + c) = true)))) → J (nI o) (nI (r + 1))) →
      ∀ (j q o : Nat), q + j = N → o < 2 ^ N → (∀ c, c < N → (o.testBit c = true ↔ (o0.testBit c = true ∨ (c < q ∧ R.testBit r = false ∧ rb_B on (6 * r + c) = true)))) → wX_columnsOutside_15 post J (nI R) (nI r) (nI N) on w bm hm (j + 1) (nI o) (nI q) := by
    intro J r hr o0 hJ j
    induction j with
    | zero =>
      intro q o hq ho hI
      have : q = N := by omega
      subst this
      refine br_t (nI_le (Nat.le_refl _) (by omega)) (nm_r (nI_1 r) (hJ o ho (fun c hc => ?_)))
      rw [hI c hc]
      exact ⟨fun z => z.imp id (fun y => y.2), fun z => z.imp id (fun y => ⟨hc, y⟩)⟩
    | succ j ih =>
      intro q o hq ho hI
      refine br_f (by rw [nI_leI (by omega) (by omega)]; omega) ?_
      rw [rb_1shl r (by omega), rb_andb R (by omega) r (by omega), rb_ix, nI_clamp (by omega)]
      have skip : ¬ (R.testBit r = false ∧ rb_B on (6 * r + q) = true) → wX_columnsOutside_15 post J (nI R) (nI r) (nI N) on w bm hm (j + 1) (nI o) (nI (q + 1)) := by
        intro z
        refine ih (q + 1) o (by omega) ho (fun c hc => ?_)
        rw [hI c hc]
        refine ⟨fun y => y.imp id (fun y => ⟨by omega, y.2⟩), fun y => y.imp id (fun y => ⟨?_, y.2⟩)⟩
        have y1 := y.1
        by_cases e : c = q
        · rw [e] at y; exact absurd y.2 z
        · omega
      refine br_c (fun t => ⟨vp_in_nI (by omega) (by decide), br_c (fun e => nm_r (nI_1 q) (skip (fun z => absurd e ((hB _).mp z.2)))) (fun e => ?_)⟩) (fun t => nm_r (nI_1 q) (skip (fun z => t z.1)))
      rw [rb_1shl q (by omega), rb_or]
      refine nm_e (nm_r (nI_1 q) (ih (q + 1) (o ||| 2 ^ q) (by omega) (rb_or_lt hN ho (by omega)) (fun c hc => ?_)))
      rw [Nat.testBit_or, Nat.testBit_two_pow, Bool.or_eq_true, hI c hc, decide_eq_true_eq]
      constructor
      · rintro ((y | y) | y)
        · exact Or.inl y
        · exact Or.inr ⟨by omega, y.2⟩
        · subst y
          exact Or.inr ⟨by omega, t, (hB _).mpr e⟩
      · rintro (y | y)
        · exact Or.inl (Or.inl y)
        · by_cases z : q = c
          · exact Or.inr z
          · exact Or.inl (Or.inr ⟨by omega, y.2⟩)
  have Out : ∀ (j r o : Nat), r + j = N → o < 2 ^ N → (∀ c, c < N → (o.testBit c = true ↔ ∃ r', r' < r ∧ R.testBit r' = false ∧ rb_B on (6 * r' + c) = true)) → wX_columnsOutside_4 post (nI R) (nI N) on w bm hm (j + 1) (nI o) (nI r) := by
    intro j
    induction j with
    | zero =>
      intro r o hr ho hI
      have : r = N := by omega
      subst this
      exact br_t (nI_le (Nat.le_refl _) (by omega)) (h o ⟨ho, hI⟩)
    | succ j ih =>
      intro r o hr ho hI
      refine br_f (by rw [nI_leI (by omega) (by omega)]; omega) ⟨_, In _ r (by omega) o (fun o' ho' hI' => ih (r + 1) o' (by omega) ho' (fun c hc => ?_)) N 0 o (by omega) ho (fun c hc => ?_)⟩
      · rw [hI' c hc, hI c hc]
        constructor
        · rintro (⟨r', y1, y2⟩ | y)
          · exact ⟨r', by omega, y2⟩
          · exact ⟨r, by omega, y⟩
        · rintro ⟨r', y1, y2⟩
          by_cases z : r' = r
          · subst z; exact Or.inr y2
          · exact Or.inl ⟨r', by omega, y2⟩
      · exact ⟨fun y => Or.inl y, fun y => y.elim id (fun z => absurd z.1 (Nat.not_lt_zero c))⟩
  refine ⟨_, Out N 0 0 (by omega) (Nat.two_pow_pos N) (fun c hc => ?_)⟩
  rw [Nat.zero_testBit]
  exact ⟨fun y => absurd y (by decide), fun ⟨r', y, _⟩ => absurd y (Nat.not_lt_zero r')⟩
theorem xb_lines {post : Int32 → Prop} {N : Nat} {on w bm hm : Nat → Int32} (hN : N ≤ 6)
    (h : ∀ l, l ≤ N → (∀ R, R < 2 ^ N → ∃ o, rb_out N (rb_B on) R o ∧ l ≤ rb_pc R + rb_pc o) → (l = N ∨ ∃ R o, R < 2 ^ N ∧ rb_out N (rb_B on) R o ∧ rb_pc R + rb_pc o = l) → post (nI l)) :
    wpX_lines post (nI N, on, w, bm, hm) := by
  have h6 := rb_p6 hN
  have L : ∀ (j R l : Nat), R + j = 2 ^ N → l ≤ N → (∀ R', R' < R → ∃ o, rb_out N (rb_B on) R' o ∧ l ≤ rb_pc R' + rb_pc o) → (l = N ∨ ∃ R o, R < 2 ^ N ∧ rb_out N (rb_B on) R o ∧ rb_pc R + rb_pc o = l) → wX_lines_7 post (nI N) on w bm hm (j + 1) (nI l) (nI R) := by
    intro j
    induction j with
    | zero =>
      intro R l hR hl h1 h2
      have : R = 2 ^ N := by omega
      subst this
      unfold wX_lines_7
      rw [rb_1shl N (by omega)]
      exact br_t (nI_le (Nat.le_refl _) (by omega)) (h l hl h1 h2)
    | succ j ih =>
      intro R l hR hl h1 h2
      unfold wX_lines_7
      rw [rb_1shl N (by omega)]
      refine br_f (nI_ge (by omega) (by omega)) (xb_outside hN (by omega) (fun o ho => xb_bc (by omega) (xb_bc (by have := ho.1; omega) (nm_r (nI_add _ _) ?_))))
      have p1 := rb_pc_lt R
      have p2 := rb_pc_lt o
      rw [nI_leI (by omega) (by omega)]
      refine br_c (fun q => nm_r (nI_1 R) (ih (R + 1) l (by omega) hl (fun R' hR' => ?_) h2)) (fun q => nm_r (nI_1 R) (ih (R + 1) _ (by omega) (by omega) (fun R' hR' => ?_) (Or.inr ⟨R, o, by omega, ho, rfl⟩)))
      · by_cases e : R' = R
        · subst e; exact ⟨o, ho, q⟩
        · exact h1 R' (by omega)
      · by_cases e : R' = R
        · subst e; exact ⟨o, ho, Nat.le_refl _⟩
        · obtain ⟨o', g1, g2⟩ := h1 R' (by omega)
          exact ⟨o', g1, by omega⟩
  exact ⟨_, L (2 ^ N) 0 N (by omega) (Nat.le_refl N) (fun R' z => absurd z (Nat.not_lt_zero _)) (Or.inl rfl)⟩
/-! column -/
theorem xb_may {post : Int32 → Prop} {N r c t : Nat} {on w bm hm : Nat → Int32} (hN : N ≤ 6) (hr : r < N) (hc : c ≤ N) (ht : t < 2 ^ N)
    (h1 : rb_al N (rb_B on) r t c = true → post 1) (h0 : c < N → rb_al N (rb_B on) r t c = false → post 0) : wpX_mayChoose post (nI N, on, w, bm, hm) (nI r) (nI c) (nI t) := by
  have h6 := rb_p6 hN
  unfold wpX_mayChoose
  dsimp only
  rw [nI_eq (by omega) (by omega)]
  by_cases e : c = N
  · exact br_t e (h1 (if_neg (by omega)))
  · have hcN : c < N := by omega
    have ea : rb_al N (rb_B on) r t c = (!t.testBit c && rb_B on (6 * r + c)) := if_pos hcN
    rw [rb_1shl c (by omega), rb_andb t (by omega) c (by omega), rb_ix, nI_clamp (by omega)]
    refine br_f e (br_c (fun q => ⟨vp_in_nI (by omega) (by decide), br_c (fun o => h0 hcN ?_) (fun o => h1 ?_)⟩) (fun q => h0 hcN ?_))
    · rw [ea, rb_Bf o, Bool.and_false]
    · rw [ea, q, rb_Bt o]; rfl
    · rw [ea, eq_true_of_ne_false q]; rfl
theorem xb_cip {post : Int32 → SX → Prop} {N k i r0 : Nat} {on w bm hm : Nat → Int32} {p : List Nat} (hN : N ≤ 6) (hk : k ≤ N) (hi : i < 2 ^ 31) (hr : r0 < N) (hp : (rb_PL N k (rb_B on))[i]? = some p)
    (h : ∀ bm', post (nI (p.getD r0 0)) (nI N, on, w, bm', hm)) : wpX_columnInPlacement post (nI N, on, w, bm, hm) (nI k) (nI i) (nI r0) := by
  have h6 := rb_p6 hN
  have hpl : p.length = N := (rb_PLm (List.mem_of_getElem? hp)).1
  have In : ∀ (J : Int32 → Int32 → Int32 → Int32 → Int32 → (Nat → Int32) → (Nat → Int32) → (Nat → Int32) → (Nat → Int32) → Prop) (r t d : Nat) (s : List Nat), r + d + 1 = N → t < 2 ^ N → rb_pc t ≤ k → k ≤ rb_pc t + (d + 1) →
      (∀ c i' s' cur, c ≤ N → i' < 2 ^ 31 → rb_nx N t c < 2 ^ N → rb_pc (rb_nx N t c) ≤ k → k ≤ rb_pc (rb_nx N t c) + d → s = c :: s' → (rb_comp N k (rb_B on) d (rb_nx N t c) (rb_pc (rb_nx N t c)))[i']? = some s' → J (nI i') (nI (rb_nx N t c)) (nI c) (nI (r + 1)) (nI N) on w cur hm) →
      ∀ (j c i' : Nat) (x6 x8 : Int32) (cur : Nat → Int32), c + j = N + 1 → i' < 2 ^ 31 → (rb_cf N (rb_pi N k (rb_B on) d t (rb_pc t)) j)[i']? = some s → wX_columnInPlacement_31 post J (nI k) (nI r0) (nI t) (nI r) (j + 1) (nI i') x6 x8 0 (nI c) (nI N) on w cur hm := by
    intro J r t d s hd ht hk1 hk2 hJ j
    induction j with
    | zero =>
      intro c i' x6 x8 cur hc hi' hs
      exact absurd hs (by show ¬ ([] : List (List Nat))[i']? = some s; simp)
    | succ j ih =>
      intro c i' x6 x8 cur hc hi' hs
      have hcN : N - j = c := by omega
      have erow : N - (d + 1) = r := by omega
      refine br_f (by rw [nI_ltI (by omega) (by omega)]; omega) (br_t rfl (xb_may hN (by omega) (by omega) ht (fun ha => br_f (by decide) ?_) (fun hlt ha => br_t rfl (nm_r (nI_1 c) (ih (c + 1) i' x6 x8 cur (by omega) hi' ?_)))))
      · obtain ⟨n1, n2⟩ := rb_nx_f hN ht ha
        have go : wX_columnInPlacement_79 post J (wX_columnInPlacement_31 post J (nI k) (nI r0) (nI t) (nI r) (j + 1)) (nI k) (nI r0) (nI i') (nI t) x6 (nI r) 0 (nI c) (nI (rb_nx N t c)) (nI N) on w cur hm := by
          unfold wX_columnInPlacement_79
          rw [nI_1 r]
          refine xb_cc hN (by omega) n1 hk (fun bm' => ?_)
          have el : rb_CB N (rb_B on) rb_w1 k (N - (r + 1)) (rb_nx N t c) = nI (rb_pi N k (rb_B on) d t (rb_pc t) c).length := by
            rw [show N - (r + 1) = d by omega]
            exact (rb_pil hN (by omega) ht rfl hk1 hk2 (by rw [erow]; exact ha)).symm
          rw [el]
          have hlt := rb_pi_lt (k := k) (t := t) (p := rb_pc t) (c := c) (B := rb_B on) (d := d) hN (by omega)
          rw [nI_leI hlt hi']
          refine br_c (fun q => ?_) (fun q => ?_)
          · have hs' := rb_ix_on hs (by rw [hcN]; exact q)
            rw [hcN] at hs'
            exact nm_r (pk_sub q) (nm_r (nI_1 c) (ih (c + 1) _ x6 _ bm' (by omega) (by omega) hs'))
          · obtain ⟨hok, s', es, hs'⟩ := rb_ix_in hs (by rw [hcN]; omega)
            rw [hcN] at hok es hs'
            rw [← n2] at hs'
            refine nm_r (nI_1 c) ?_
            have hb : rb_pc (rb_nx N t c) ≤ k ∧ k ≤ rb_pc (rb_nx N t c) + d := by
              rw [n2]
              unfold rb_ok at hok
              unfold rb_np
              by_cases z : c < N
              · rw [if_pos z] at hok ⊢
                have hlt2 : rb_pc t < k := by
                  have := (Bool.and_eq_true _ _ ▸ hok).1
                  exact of_decide_eq_true this
                omega
              · rw [if_neg z] at hok ⊢
                have := of_decide_eq_true hok
                omega
            have fin := hJ c i' s' bm' (by omega) hi' n1 hb.1 hb.2 es hs'
            exact br_c (fun _ => nm_r (nI_1 r) fin) (fun _ => br_f (by decide) (nm_r (nI_1 r) fin))
        by_cases z : c < N
        · refine br_f (by rw [nI_leI (by omega) (by omega)]; omega) ?_
          have hbt : t.testBit c = false := by
            unfold rb_al at ha
            rw [if_pos z] at ha
            cases e : t.testBit c
            · rfl
            · rw [e] at ha; simp at ha
          rw [rb_1shl c (by omega), rb_or, rb_orb t (by omega) c (by omega) hbt]
          rw [show rb_nx N t c = t + 2 ^ c from if_pos z] at go
          exact go
        · refine br_t ((nI_leI (by omega) (by omega)).mpr (by omega)) ?_
          rw [show rb_nx N t c = t from if_neg z] at go
          exact go
      · rw [rb_cf_s, hcN, rb_pin hlt (by rw [erow]; exact ha)] at hs
        exact hs
  have Out : ∀ (j r t i' : Nat) (x6 : Int32) (cur : Nat → Int32), r + j = r0 + 1 → i' < 2 ^ 31 → t < 2 ^ N → rb_pc t ≤ k → k ≤ rb_pc t + (N - r) → (rb_comp N k (rb_B on) (N - r) t (rb_pc t))[i']? = some (p.drop r) → (r = r0 + 1 → x6 = nI (p.getD r0 0)) →
      wX_columnInPlacement_15 post (nI k) (nI r0) (j + 1) (nI i') (nI t) x6 (nI r) (nI N) on w cur hm := by
    intro j
    induction j with
    | zero =>
      intro r t i' x6 cur hr' hi' ht hk1 hk2 hs hx
      rw [hx (by omega)]
      exact br_t (nI_lt (by omega) (by omega)) (h cur)
    | succ j ih =>
      intro r t i' x6 cur hr' hi' ht hk1 hk2 hs hx
      obtain ⟨d, hd⟩ : ∃ d, N - r = d + 1 := ⟨N - r - 1, by omega⟩
      rw [hd] at hk2 hs
      rw [rb_comp_s] at hs
      refine br_f (by rw [nI_ltI (by omega) (by omega)]; omega) ⟨_, In _ r t d (p.drop r) (by omega) ht hk1 hk2 (fun c i'' s' cur' hc hi'' n1 b1 b2 es hs' => ?_) (N + 1) 0 i' x6 (nI t) cur (by omega) hi' hs⟩
      rw [rb_drop (by omega)] at es
      obtain ⟨es1, es2⟩ := List.cons.inj es
      rw [← es2] at hs'
      refine ih (r + 1) (rb_nx N t c) i'' (nI c) cur' (by omega) hi'' n1 b1 (by rw [show N - (r + 1) = d by omega]; exact b2) (by rw [show N - (r + 1) = d by omega]; exact hs') (fun e => ?_)
      rw [← es1, show r = r0 by omega]
  exact ⟨_, Out (r0 + 1) 0 0 i (nI N) bm (by omega) hi (Nat.two_pow_pos N) (Nat.zero_le k) (by have : rb_pc 0 = 0 := rfl; omega) hp (fun e => by omega)⟩
theorem xb_column {post : Int32 → SX → Prop} {N k i r0 : Nat} {on w bm hm : Nat → Int32} (hN : N ≤ 6) (hk : k ≤ N) (hr : r0 < N) (hi : i < 2 ^ 31)
    (h1 : ∀ p, (rb_PL N k (rb_B on))[i]? = some p → ∀ bm', post (nI (p.getD r0 0)) (nI N, on, w, bm', hm)) (h2 : (rb_PL N k (rb_B on))[i]? = none → ∀ bm', post (-4) (nI N, on, w, bm', hm)) :
    wpX_column post (nI N, on, w, bm, hm) (nI k) (nI i) (nI r0) := by
  unfold wpX_column
  dsimp only
  refine xb_rc1 hN hk (br_f (by decide) (xb_line1 hN hr (br_f (by decide) (br_f (nI_pos hi) (xb_cc (r0 := 0) (u := 0) hN (Nat.zero_le N) (Nat.two_pow_pos N) hk (fun bm' => ?_))))))
  have e : rb_CB N (rb_B on) rb_w1 k (N - 0) 0 = nI (rb_PL N k (rb_B on)).length := rb_PLn hN hk
  rw [e, nI_ltI hi (rb_PLlt hN)]
  refine br_c (fun q => ?_) (fun q => h2 (List.getElem?_eq_none (by omega)) bm')
  have := List.getElem?_eq_getElem q
  exact xb_cip hN hk hi hr this (h1 _ this)
theorem xb_columnN {post : Int32 → SX → Prop} {N k r0 : Nat} {v : Int32} {on w bm hm : Nat → Int32} (hN : N ≤ 6) (hk : k ≤ N) (hr : r0 < N) (hv : v < 0)
    (h : post (-4) (nI N, on, w, bm, hm)) : wpX_column post (nI N, on, w, bm, hm) (nI k) v (nI r0) := by
  unfold wpX_column
  dsimp only
  exact xb_rc1 hN hk (br_f (by decide) (xb_line1 hN hr (br_f (by decide) (br_t hv h))))
theorem xb_column0 {post : Int32 → SX → Prop} {N : Nat} {v v2 v3 : Int32} {on w bm hm : Nat → Int32} (hN : N ≤ 6) (hk : ¬ ((∃ k, k ≤ N ∧ v = nI k) ∧ ∃ k, k < N ∧ v3 = nI k))
    (h : post (-1) (nI N, on, w, bm, hm)) : wpX_column post (nI N, on, w, bm, hm) v v2 v3 := by
  unfold wpX_column
  dsimp only
  by_cases q : ∃ k, k ≤ N ∧ v = nI k
  · obtain ⟨k, hk1, rfl⟩ := q
    exact xb_rc1 hN hk1 (br_f (by decide) (xb_line0 hN (fun t => hk ⟨⟨k, hk1, rfl⟩, t⟩) (br_t rfl h)))
  · exact xb_rc0 hN q (br_t rfl h)
