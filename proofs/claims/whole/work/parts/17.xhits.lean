/-! R: the class: hits, the signed sum -/
theorem rb_ix7 (r c : Nat) : 7 * nI r + nI c = nI (7 * r + c) := by
  show nI 7 * nI r + nI c = _
  rw [pk_mul, nI_add]
theorem xb_addHits {post : SX → Prop} {N m f h : Nat} {on w bm hm : Nat → Int32} (hN : N ≤ 6) (hfm : f < m) (hm6 : m < 64) (hh : h ≤ 1) (h0 : 0 < N)
    (hp : ∀ hm', (∀ x, (x < 7 * m ∨ 7 * m + 7 ≤ x) → hm' x = hm x) → (∀ j, j ≤ N → hm' (7 * m + j) = hm (7 * m + j) + (if h ≤ j then hm (7 * f + (j - h)) else 0)) → post (nI N, on, w, bm, hm')) :
    wpX_addHits post (nI N, on, w, bm, hm) (nI m) (nI f) (nI h) := by
  have L : ∀ (q i : Nat) (cur : Nat → Int32), i + q = N + 1 → h ≤ i → (∀ x, (x < 7 * m ∨ 7 * m + i ≤ x) → cur x = hm x) → (∀ j, j < i → cur (7 * m + j) = hm (7 * m + j) + (if h ≤ j then hm (7 * f + (j - h)) else 0)) → wX_addHits_3 post (nI m) (nI f) (nI h) (nI N) (q + 1) (nI i) on w bm cur := by
    intro q
    induction q with
    | zero =>
      intro i cur hi hhi h1 h2
      exact br_t (nI_lt (by omega) (by omega)) (hp cur (fun x hx => h1 x (by omega)) (fun j hj => h2 j (by omega)))
    | succ q ih =>
      intro i cur hi hhi h1 h2
      refine br_f (by rw [nI_ltI (by omega) (by omega)]; omega) ?_
      rw [rb_ix7, rb_ix7, pk_sub (by omega), nI_clamp (by omega), nI_clamp (by omega)]
      refine ⟨vp_in_nI (by omega) (by decide), vp_in_nI (by omega) (by decide), vp_in_nI (by omega) (by decide), nm_e (nm_r (nI_1 i) (ih (i + 1) _ (by omega) (by omega) (fun x hx => ?_) (fun j hj => ?_)))⟩
      · rw [pk_un (by omega)]; exact h1 x (by omega)
      · by_cases e : j = i
        · rw [e, pk_us, h1 _ (by omega), h1 _ (by omega), if_pos hhi, show 7 * f + i - h = 7 * f + (i - h) by omega]
        · rw [pk_un (by omega)]; exact h2 j (by omega)
  refine ⟨_, L (N + 1 - h) h hm (by omega) (Nat.le_refl h) (fun x _ => rfl) (fun j hj => ?_)⟩
  rw [if_neg (by omega), Int32.add_zero]
/-- the row of hits for a mask -/
def rb_R (N : Nat) (h : Nat → Nat → Nat) (cur : Nat → Int32) (m j : Nat) (q : Nat) : Int32 :=
  rb_sum (fun c => if m.testBit c then (if h (rb_pc m - 1) c ≤ j then cur (7 * (m - 2 ^ c) + (j - h (rb_pc m - 1) c)) else 0) else 0) q
theorem rb_R_c {N : Nat} {h : Nat → Nat → Nat} {cur cur' : Nat → Int32} {m j q : Nat} (hj : j ≤ 6) (hc : ∀ x, x < 7 * m → cur' x = cur x) : rb_R N h cur' m j q = rb_R N h cur m j q := by
  unfold rb_R
  refine rb_sum_c (fun c _ => ?_)
  cases hb : m.testBit c
  · rfl
  · have h1 : 2 ^ c ≤ m := Nat.ge_two_pow_of_testBit hb
    have h2 : 0 < 2 ^ c := Nat.two_pow_pos c
    by_cases e : h (rb_pc m - 1) c ≤ j
    · rw [if_pos e, if_pos e, hc _ (by omega)]
    · rw [if_neg e, if_neg e]
theorem xb_fill {post : SX → Prop} {N : Nat} {on w bm hm : Nat → Int32} (hN : N ≤ 6) (h0 : 0 < N)
    (hp : ∀ cur, cur 0 = 1 → (∀ j, 0 < j → j ≤ N → cur j = 0) → (∀ m, 0 < m → m < 2 ^ N → ∀ j, j ≤ N → cur (7 * m + j) = rb_R N (rb_h on) cur m j N) → post (nI N, on, w, bm, cur)) :
    wpX_fillHits post (nI N, on, w, bm, hm) := by
  have h6 := rb_p6 hN
  have In : ∀ (J : Int32 → Int32 → (Nat → Int32) → (Nat → Int32) → (Nat → Int32) → (Nat → Int32) → Prop) (m : Nat) (c0 : Nat → Int32), 0 < m → m < 2 ^ N →
      (∀ cur, (∀ x, (x < 7 * m ∨ 7 * m + 7 ≤ x) → cur x = c0 x) → (∀ j, j ≤ N → cur (7 * m + j) = rb_R N (rb_h on) c0 m j N) → J (nI (m + 1)) (nI N) on w bm cur) →
      ∀ (q c : Nat) (cur : Nat → Int32), c + q = N → (∀ x, (x < 7 * m ∨ 7 * m + 7 ≤ x) → cur x = c0 x) → (∀ j, j ≤ N → cur (7 * m + j) = rb_R N (rb_h on) c0 m j c) → wX_fillHits_50 post J (nI m) (nI (rb_pc m - 1)) (q + 1) (nI c) (nI N) on w bm cur := by
    intro J m c0 hm0 hmN hJ q
    have hpc := (rb_pcN N (by omega) m (by omega) hmN).1
    induction q with
    | zero =>
      intro c cur hc h1 h2
      have : c = N := by omega
      subst this
      exact br_t (nI_le (Nat.le_refl _) (by omega)) (nm_r (nI_1 m) (hJ cur h1 h2))
    | succ q ih =>
      intro c cur hc h1 h2
      have es : ∀ j, rb_R N (rb_h on) c0 m j (c + 1) = rb_R N (rb_h on) c0 m j c + (if m.testBit c then (if rb_h on (rb_pc m - 1) c ≤ j then c0 (7 * (m - 2 ^ c) + (j - rb_h on (rb_pc m - 1) c)) else 0) else 0) := fun _ => rfl
      refine br_f (by rw [nI_leI (by omega) (by omega)]; omega) (nm_r (rb_1shl c (by omega)) ?_)
      rw [rb_andb m (by omega) c (by omega), rb_ix, nI_clamp (by omega)]
      refine br_c (fun t => nm_r (nI_1 c) (ih (c + 1) cur (by omega) h1 (fun j hj => ?_))) (fun t => ⟨vp_in_nI (by omega) (by decide), ?_⟩)
      · rw [es, t, h2 j hj]
        exact (Int32.add_zero _).symm
      · have t' : m.testBit c = true := eq_true_of_ne_false t
        have g1 : 2 ^ c ≤ m := Nat.ge_two_pow_of_testBit t'
        have g2 : 0 < 2 ^ c := Nat.two_pow_pos c
        have go : wX_fillHits_89 post J (wX_fillHits_50 post J (nI m) (nI (rb_pc m - 1)) (q + 1)) (nI m) (nI (rb_pc m - 1)) (nI c) (nI (2 ^ c)) (nI (rb_h on (rb_pc m - 1) c)) (nI N) on w bm cur := by
          unfold wX_fillHits_89
          rw [pk_sub g1]
          refine xb_addHits hN (by omega) (by omega) (rb_h1 on _ _) h0 (fun hm' q1 q2 => nm_r (nI_1 c) (ih (c + 1) hm' (by omega) (fun x hx => ?_) (fun j hj => ?_)))
          · rw [q1 x hx]; exact h1 x hx
          · rw [q2 j hj, es, t', if_pos rfl, h2 j hj]
            congr 1
            by_cases e : rb_h on (rb_pc m - 1) c ≤ j
            · rw [if_pos e, if_pos e, h1 _ (by omega)]
            · rw [if_neg e, if_neg e]
        refine br_c (fun o => ?_) (fun o => ?_)
        · have e : rb_h on (rb_pc m - 1) c = 0 := if_pos o
          rw [e] at go
          exact go
        · have e : rb_h on (rb_pc m - 1) c = 1 := if_neg o
          rw [e] at go
          exact go
  have Out : ∀ (q m : Nat) (cur : Nat → Int32), m + q = 2 ^ N → 0 < m → cur 0 = 1 → (∀ j, 0 < j → j ≤ N → cur j = 0) → (∀ m', 0 < m' → m' < m → ∀ j, j ≤ N → cur (7 * m' + j) = rb_R N (rb_h on) cur m' j N) → (∀ x, 7 * m ≤ x → x < 448 → cur x = 0) →
      wX_fillHits_31 post (q + 1) (nI m) (nI N) on w bm cur := by
    intro q
    induction q with
    | zero =>
      intro m cur hm' hm0 h1 h2 h3 h4
      have : m = 2 ^ N := by omega
      subst this
      unfold wX_fillHits_31
      rw [rb_1shl N (by omega)]
      exact br_t (nI_le (Nat.le_refl _) (by omega)) (hp cur h1 h2 h3)
    | succ q ih =>
      intro m cur hm' hm0 h1 h2 h3 h4
      unfold wX_fillHits_31
      rw [rb_1shl N (by omega)]
      have hpc : 0 < rb_pc m := by
        rcases Nat.eq_zero_or_pos (rb_pc m) with z | z
        · have := rb_pc0 m (by omega) z; omega
        · exact z
      have hpl := rb_pc_lt m
      refine br_f (nI_ge (by omega) (by omega)) (xb_bc (by omega) (nm_r (pk_sub (b := 1) hpc) ⟨_, In _ m cur hm0 (by omega) (fun cur' g1 g2 => ih (m + 1) cur' (by omega) (by omega) ?_ (fun j hj1 hj2 => ?_) (fun m' hm1 hm2 j hj => ?_) (fun x hx1 hx2 => ?_)) N 0 cur (by omega) (fun x _ => rfl) (fun j hj => ?_)⟩))
      · rw [g1 0 (by omega)]; exact h1
      · rw [g1 j (by omega)]; exact h2 j hj1 hj2
      · by_cases e : m' = m
        · subst e
          rw [g2 j hj]
          exact (rb_R_c (by omega) (fun x hx => g1 x (Or.inl hx))).symm
        · rw [g1 _ (by omega), h3 m' hm1 (by omega) j hj]
          exact (rb_R_c (by omega) (fun x hx => g1 x (by omega))).symm
      · rw [g1 x (by omega)]; exact h4 x (by omega) hx2
      · exact h4 _ (by omega) (by omega)
  have Z : ∀ (q i : Nat) (cur : Nat → Int32), i + q = 448 → (∀ x, x < i → cur x = 0) → wX_fillHits_2 post (nI N) (q + 1) (nI i) on w bm cur := by
    intro q
    induction q with
    | zero =>
      intro i cur hi h1
      have : i = 448 := by omega
      subst this
      have hp1 : 1 ≤ 2 ^ N := Nat.two_pow_pos N
      refine br_t (nI_le (a := 448) (b := 448) (Nat.le_refl _) (by decide)) (nm_e ⟨_, Out (2 ^ N - 1) 1 _ (by omega) (by decide) pk_us (fun j hj1 hj2 => ?_) (fun m' hm1 hm2 => by omega) (fun x hx1 hx2 => ?_)⟩)
      · rw [pk_un (by omega)]; exact h1 j (by omega)
      · rw [pk_un (by omega)]; exact h1 x hx2
    | succ q ih =>
      intro i cur hi h1
      refine br_f (nI_ge (a := i) (b := 448) (by omega) (by decide)) ⟨vp_in_nI (by omega) (by decide), nm_r (e' := upd cur i 0) (by rw [nI_clamp (by omega)]) (nm_r (nI_1 i) (ih (i + 1) _ (by omega) (fun x hx => ?_)))⟩
      by_cases e : x = i
      · rw [e, pk_us]
      · rw [pk_un e]; exact h1 x (by omega)
  exact ⟨_, Z 448 0 hm rfl (fun x hx => absurd hx (Nat.not_lt_zero _))⟩
theorem xb_hits {post : Int32 → SX → Prop} {N kk : Nat} {on w bm hm : Nat → Int32} (hN : N ≤ 6) (h0 : 0 < N) (hk : kk ≤ N)
    (h : ∀ hm', post (rb_HB N (rb_h on) kk N 0 0) (nI N, on, w, bm, hm')) : wpX_hits post (nI N, on, w, bm, hm) (nI kk) := by
  unfold wpX_hits
  dsimp only
  have h6 := rb_p6 hN
  have hp := Nat.two_pow_pos N
  refine xb_rc1 hN hk (br_f (by decide) (xb_fill hN h0 (fun cur c1 c2 c3 => ?_)))
  have e := rb_hits (N := N) (kk := kk) (h := rb_h on) (H := fun m j => cur (7 * m + j)) hN hk (rb_h1 on) c1 (fun j hj1 hj2 => by show cur (7 * 0 + j) = 0; rw [Nat.mul_zero, Nat.zero_add]; exact c2 j hj1 hj2) (fun m hm1 hm2 j hj => c3 m hm1 hm2 j hj)
  have e1 : (1 : Int32) <<< (nI N &&& 31) - 1 = nI (2 ^ N - 1) := by
    rw [rb_1shl N (by omega)]
    exact pk_sub (a := 2 ^ N) (b := 1) hp
  refine nm_r e1 ?_
  rw [rb_ix7, nI_clamp (by omega)]
  refine ⟨vp_in_nI (by omega) (by decide), ?_⟩
  have := h cur
  rw [← e] at this
  exact this
theorem xb_hits0 {post : Int32 → SX → Prop} {N : Nat} {v : Int32} {on w bm hm : Nat → Int32} (hN : N ≤ 6) (hk : ¬ ∃ k, k ≤ N ∧ v = nI k)
    (h : post (-1) (nI N, on, w, bm, hm)) : wpX_hits post (nI N, on, w, bm, hm) v := by
  unfold wpX_hits
  dsimp only
  exact xb_rc0 hN hk (br_t rfl h)
/-! the signed sum -/
def rb_SS (on w cur : Nat → Int32) (m : Nat) (q : Nat) : Int32 :=
  rb_sum (fun c => if m.testBit c && rb_B on (6 * (rb_pc m - 1) + c) then w (6 * (rb_pc m - 1) + c) * cur (m - 2 ^ c) * rb_sg (rb_gt m c) else 0) q
theorem xb_sson {post : Int32 → Prop} {N m : Nat} {on w bm hm : Nat → Int32} (hN : N ≤ 6) (hm0 : 0 < m) (hmN : m < 2 ^ N) (h : post (rb_SS on w bm m N)) : wpX_signedSumOn post (nI N, on, w, bm, hm) (nI m) := by
  have h6 := rb_p6 hN
  have hpc := (rb_pcN N (by omega) m (by omega) hmN).1
  have hp0 : 0 < rb_pc m := by
    rcases Nat.eq_zero_or_pos (rb_pc m) with z | z
    · have := rb_pc0 m (by omega) z; omega
    · exact z
  have L : ∀ (q c : Nat), c + q = N → wX_signedSumOn_12 post (nI m) (nI (rb_pc m - 1)) (nI N) on w bm hm (q + 1) (rb_SS on w bm m c) (nI c) := by
    intro q
    induction q with
    | zero =>
      intro c hc
      have : c = N := by omega
      subst this
      exact br_t (nI_le (Nat.le_refl _) (by omega)) h
    | succ q ih =>
      intro c hc
      have es : rb_SS on w bm m (c + 1) = rb_SS on w bm m c + (if m.testBit c && rb_B on (6 * (rb_pc m - 1) + c) then w (6 * (rb_pc m - 1) + c) * bm (m - 2 ^ c) * rb_sg (rb_gt m c) else 0) := rfl
      have ihc := ih (c + 1) (by omega)
      refine br_f (by rw [nI_leI (by omega) (by omega)]; omega) (nm_r (rb_ix _ c) (nm_r (rb_1shl c (by omega)) ?_))
      rw [rb_andb m (by omega) c (by omega), nI_clamp (by omega)]
      refine br_c (fun t => nm_r (nI_1 c) ?_) (fun t => ⟨vp_in_nI (by omega) (by decide), br_c (fun o => nm_r (nI_1 c) ?_) (fun o => ⟨vp_in_nI (by omega) (by decide), ?_⟩)⟩)
      · rw [es, t, Bool.false_and, if_neg (by decide), Int32.add_zero] at ihc
        exact ihc
      · rw [es, rb_Bf o, Bool.and_false, if_neg (by decide), Int32.add_zero] at ihc
        exact ihc
      · have t' : m.testBit c = true := eq_true_of_ne_false t
        have g1 : 2 ^ c ≤ m := Nat.ge_two_pow_of_testBit t'
        have g2 : 0 < 2 ^ c := Nat.two_pow_pos c
        have e4 : nI m >>> ((nI c + 1) &&& 31) = nI (m / 2 ^ (c + 1)) := by rw [nI_1, rb_shr (by omega) (by omega)]
        have hd : m / 2 ^ (c + 1) ≤ m := Nat.div_le_self _ _
        rw [pk_sub g1, nI_clamp (by omega), e4]
        refine ⟨vp_in_nI (by omega) (by decide), nm_e (xb_bc (by omega) ⟨rb_20, ?_⟩)⟩
        have hg : rb_pc (m / 2 ^ (c + 1)) = rb_gt m c := rfl
        have hgl := rb_pc_lt (m / 2 ^ (c + 1))
        have e5 : nI (rb_pc (m / 2 ^ (c + 1))) - nI (rb_pc (m / 2 ^ (c + 1))) / 2 * 2 = nI (rb_pc (m / 2 ^ (c + 1)) % 2) := pk_rem (d := 2) (by omega) (by decide) (by decide)
        rw [e5, hg]
        rw [es, t', rb_Bt o, Bool.true_and, if_pos rfl] at ihc
        rcases Nat.mod_two_eq_zero_or_one (rb_gt m c) with z | z
        · rw [show rb_sg (rb_gt m c) = 1 from if_pos z, Int32.mul_one] at ihc
          rw [z]
          exact br_t rfl (nm_e (nm_r (nI_1 c) ihc))
        · rw [show rb_sg (rb_gt m c) = -1 from if_neg (by omega)] at ihc
          rw [z]
          refine br_f (by decide) (nm_r (e' := rb_SS on w bm m c + w (6 * (rb_pc m - 1) + c) * bm (m - 2 ^ c) * -1) (by grind) (nm_r (nI_1 c) ihc))
  unfold wpX_signedSumOn
  dsimp only
  exact xb_bc (by omega) (nm_r (pk_sub (b := 1) hp0) ⟨_, L N 0 (by omega)⟩)
theorem rb_SS_c {on w cur cur' : Nat → Int32} {m q : Nat} (hc : ∀ x, x < m → cur' x = cur x) : rb_SS on w cur' m q = rb_SS on w cur m q := by
  unfold rb_SS
  refine rb_sum_c (fun c _ => ?_)
  cases hb : m.testBit c
  · rfl
  · have h1 : 2 ^ c ≤ m := Nat.ge_two_pow_of_testBit hb
    have h2 : 0 < 2 ^ c := Nat.two_pow_pos c
    rw [hc (m - 2 ^ c) (by omega)]
theorem xb_signedSum {post : Int32 → SX → Prop} {N : Nat} {on w bm hm : Nat → Int32} (hN : N ≤ 6) (h0 : 0 < N)
    (h : ∀ bm', post (rb_CB N (rb_B on) (rb_wg N w) N N 0) (nI N, on, w, bm', hm)) : wpX_signedSum post (nI N, on, w, bm, hm) := by
  have h6 := rb_p6 hN
  have hp := Nat.two_pow_pos N
  have L : ∀ (q m : Nat) (cur : Nat → Int32), m + q = 2 ^ N → 0 < m → cur 0 = 1 → (∀ m', 0 < m' → m' < m → cur m' = rb_SS on w cur m' N) → wX_signedSum_16 post (nI (2 ^ N - 1)) (nI N) (q + 1) (nI m) on w cur hm := by
    intro q
    induction q with
    | zero =>
      intro m cur hm' hm0 h1 h2
      have : m = 2 ^ N := by omega
      subst this
      refine br_t (nI_lt (by omega) (by omega)) ⟨vp_in_nI (by omega) (by decide), ?_⟩
      rw [nI_clamp (by omega)]
      have e := rb_signed (B := rb_B on) (W := w) (S := cur) hN h1 (fun m hm1 hm2 => h2 m hm1 hm2)
      rw [e]
      exact h cur
    | succ q ih =>
      intro m cur hm' hm0 h1 h2
      refine br_f (by rw [nI_ltI (by omega) (by omega)]; omega) (xb_sson hN hm0 (by omega) ⟨vp_in_nI (by omega) (by decide), nm_r (e' := upd cur m (rb_SS on w cur m N)) (by rw [nI_clamp (by omega)]) (nm_r (nI_1 m) (ih (m + 1) _ (by omega) (by omega) ?_ (fun m' hm1 hm2 => ?_)))⟩)
      · rw [pk_un (by omega)]; exact h1
      · by_cases e : m' = m
        · subst e
          rw [pk_us]
          exact (rb_SS_c (fun x hx => pk_un (by omega))).symm
        · rw [pk_un e, h2 m' hm1 (by omega)]
          exact (rb_SS_c (fun x hx => pk_un (by omega))).symm
  have e1 : (1 : Int32) <<< (nI N &&& 31) - 1 = nI (2 ^ N - 1) := by
    rw [rb_1shl N (by omega)]
    exact pk_sub (a := 2 ^ N) (b := 1) hp
  unfold wpX_signedSum
  dsimp only
  exact xb_start (u := 0) (by decide) (fun bm' hb => nm_r e1 ⟨_, L (2 ^ N - 1) 1 bm' (by omega) (by decide) (by rw [hb 0 (by decide), if_pos rfl]) (fun m' h1 h2 => by omega)⟩)
