/-! P: the class: counts and sums over masks -/
theorem xb_line1 {post : Int32 → Prop} {N k : Nat} {on w bm hm : Nat → Int32} (hN : N ≤ 6) (hk : k < N) (h : post 1) : wpX_isLine post (nI N, on, w, bm, hm) (nI k) :=
  br_f (nI_pos (by omega)) (br_f (by rw [nI_leI (by omega) (by omega)]; omega) h)
theorem xb_line0 {post : Int32 → Prop} {N : Nat} {v : Int32} {on w bm hm : Nat → Int32} (hN : N ≤ 6) (hk : ¬ ∃ k, k < N ∧ v = nI k) (h : post 0) : wpX_isLine post (nI N, on, w, bm, hm) v := by
  refine br_c (fun _ => h) (fun h0 => br_t ?_ h)
  obtain ⟨j, hj, rfl⟩ := nI_of h0
  rw [nI_leI (by omega) hj]
  rcases Nat.lt_or_ge j N with q | q
  · exact absurd ⟨j, q, rfl⟩ hk
  · exact q
theorem xb_rc1 {post : Int32 → Prop} {N k : Nat} {on w bm hm : Nat → Int32} (hN : N ≤ 6) (hk : k ≤ N) (h : post 1) : wpX_isRookCount post (nI N, on, w, bm, hm) (nI k) :=
  br_f (nI_pos (by omega)) (br_f (by rw [nI_ltI (by omega) (by omega)]; omega) h)
theorem xb_rc0 {post : Int32 → Prop} {N : Nat} {v : Int32} {on w bm hm : Nat → Int32} (hN : N ≤ 6) (hk : ¬ ∃ k, k ≤ N ∧ v = nI k) (h : post 0) : wpX_isRookCount post (nI N, on, w, bm, hm) v := by
  refine br_c (fun _ => h) (fun h0 => br_t ?_ h)
  obtain ⟨j, hj, rfl⟩ := nI_of h0
  rw [nI_ltI (by omega) hj]
  rcases Nat.lt_or_ge N j with q | q
  · exact q
  · exact absurd ⟨j, q, rfl⟩ hk
theorem xb_cell1 {post : Int32 → Prop} {N r c : Nat} {on w bm hm : Nat → Int32} (hN : N ≤ 6) (hr : r < N) (hc : c < N) (h : post 1) : wpX_isCell post (nI N, on, w, bm, hm) (nI (6 * r + c)) := by
  unfold wpX_isCell
  dsimp only
  have e2 := rb_rem6 (r := r) (c := c) (by omega) (by omega)
  rw [rb_div6 (by omega) (by omega)] at e2 ⊢
  rw [e2]
  exact br_f (nI_pos (by omega)) ⟨rb_60, br_f (by rw [nI_leI (by omega) (by omega)]; omega) ⟨rb_60, br_f (by rw [nI_leI (by omega) (by omega)]; omega) h⟩⟩
theorem xb_cell0 {post : Int32 → Prop} {N : Nat} {v : Int32} {on w bm hm : Nat → Int32} (hN : N ≤ 6) (hv : ¬ ∃ r c, r < N ∧ c < N ∧ v = nI (6 * r + c)) (h : post 0) : wpX_isCell post (nI N, on, w, bm, hm) v := by
  unfold wpX_isCell
  dsimp only
  refine br_c (fun _ => h) (fun g0 => ⟨rb_60, ?_⟩)
  obtain ⟨j, hj, rfl⟩ := nI_of g0
  have e1 : nI j / 6 = nI (j / 6) := pk_div (d := 6) hj (by decide) (by decide)
  have e2 : nI j - nI j / 6 * 6 = nI (j % 6) := pk_rem (d := 6) hj (by decide) (by decide)
  rw [e2, e1, nI_leI (by omega) (by omega), nI_leI (by omega) (by omega)]
  refine br_c (fun _ => h) (fun q1 => ⟨rb_60, br_t ?_ h⟩)
  rcases Nat.lt_or_ge (j % 6) N with q | q
  · exact absurd ⟨j / 6, j % 6, by omega, q, congrArg nI (by omega)⟩ hv
  · exact q
theorem xb_bc {post : Int32 → Prop} {m : Nat} (hm : m < 2 ^ 31) (h : post (nI (rb_pc m))) : wpX_bitCount post (nI m) := by
  have L : ∀ (j b : Nat), b + j = 6 → wX_bitCount_4 post (nI m) (j + 1) (nI (rb_cnt m b)) (nI b) := by
    intro j
    induction j with
    | zero =>
      intro b hb
      have : b = 6 := by omega
      subst this
      rw [rb_cnt6]
      exact br_t (nI_le (a := 6) (b := 6) (Nat.le_refl _) (by decide)) h
    | succ j ih =>
      intro b hb
      refine br_f (nI_ge (a := b) (b := 6) (by omega) (by decide)) ?_
      rw [rb_shr1 hm (by omega)]
      exact nm_r (nI_add _ _) (nm_r (nI_1 b) (ih (b + 1) (by omega)))
  exact ⟨_, L 6 0 rfl⟩
theorem xb_start {post : SX → Prop} {N u : Nat} {on w bm hm : Nat → Int32} (hu : u < 64) (h : ∀ bm', (∀ m, m < 64 → bm' m = if m = u then 1 else 0) → post (nI N, on, w, bm', hm)) : wpX_startWith post (nI N, on, w, bm, hm) (nI u) := by
  have L : ∀ (j i : Nat) (cur : Nat → Int32), i + j = 64 → (∀ m, m < i → cur m = 0) → wX_startWith_2 post (nI u) (nI N) (j + 1) (nI i) on w cur hm := by
    intro j
    induction j with
    | zero =>
      intro i cur hi hc
      have : i = 64 := by omega
      subst this
      refine br_t (nI_le (a := 64) (b := 64) (Nat.le_refl _) (by decide)) ⟨vp_in_nI hu (by decide), nm_r (e' := upd cur u 1) (by rw [nI_clamp (by omega)]) (h _ (fun m hm' => ?_))⟩
      by_cases q : m = u
      · rw [q, pk_us, if_pos rfl]
      · rw [pk_un q, if_neg q, hc m hm']
    | succ j ih =>
      intro i cur hi hc
      refine br_f (nI_ge (a := i) (b := 64) (by omega) (by decide)) ⟨vp_in_nI (by omega) (by decide), nm_r (e' := upd cur i 0) (by rw [nI_clamp (by omega)]) (nm_r (nI_1 i) (ih (i + 1) _ (by omega) (fun m hm' => ?_)))⟩
      by_cases q : m = i
      · rw [q, pk_us]
      · rw [pk_un q, hc m (by omega)]
  exact ⟨_, L 64 0 bm rfl (fun m hm' => absurd hm' (Nat.not_lt_zero _))⟩
def rb_fac (wt : Int32) (w : Nat → Int32) : Nat → Nat → Nat → Int32 := fun r _ c => if wt = 0 then 1 else w (6 * r + c)
theorem rb_Bt {on : Nat → Int32} {x : Nat} (h : ¬ on x = 0) : rb_B on x = true := decide_eq_true h
theorem rb_Bf {on : Nat → Int32} {x : Nat} (h : on x = 0) : rb_B on x = false := decide_eq_false (fun q => q h)
theorem xb_addRow {post : SX → Prop} {N r : Nat} {wt : Int32} {on w bm hm : Nat → Int32} (hN : N ≤ 6) (hr : r < N)
    (h : ∀ bm', (∀ m, m < 2 ^ N → bm' m = bm m + rb_row N (rb_B on) (rb_fac wt w) r bm m) → post (nI N, on, w, bm', hm)) : wpX_addRow post (nI N, on, w, bm, hm) (nI r) wt := by
  have h6 := rb_p6 hN
  have hp := Nat.two_pow_pos N
  let g : Nat → Nat → Int32 := fun m c => if m.testBit c && rb_B on (6 * r + c) then bm (m - 2 ^ c) * rb_fac wt w r (m - 2 ^ c) c else 0
  have eg : ∀ m c, g m c = if m.testBit c && rb_B on (6 * r + c) then bm (m - 2 ^ c) * rb_fac wt w r (m - 2 ^ c) c else 0 := fun _ _ => rfl
  have erow : ∀ m, rb_row N (rb_B on) (rb_fac wt w) r bm m = rb_sum (g m) N := fun _ => rfl
  have In : ∀ (J : Int32 → (Nat → Int32) → (Nat → Int32) → (Nat → Int32) → (Nat → Int32) → Prop) (q : Nat), q + 1 < 2 ^ N →
      (∀ cur, (∀ m, m < q + 1 → cur m = bm m) → (∀ m, q < m → m < 2 ^ N → cur m = bm m + rb_sum (g m) N) → J (nI q) on w cur hm) →
      ∀ (j c : Nat) (cur : Nat → Int32), c + j = N → (∀ m, m < q + 1 → cur m = bm m) → cur (q + 1) = bm (q + 1) + rb_sum (g (q + 1)) c → (∀ m, q + 1 < m → m < 2 ^ N → cur m = bm m + rb_sum (g m) N) →
        wX_addRow_16 post J (nI r) wt (nI (q + 1)) (nI N) (j + 1) (nI c) on w cur hm := by
    intro J q hq hJ j
    induction j with
    | zero =>
      intro c cur hc h1 h2 h3
      have : c = N := by omega
      subst this
      refine br_t (nI_le (Nat.le_refl _) (by omega)) (nm_r (pk_m1 q) (hJ cur h1 (fun m hm1 hm2 => ?_)))
      by_cases e : m = q + 1
      · rw [e]; exact h2
      · exact h3 m (by omega) hm2
    | succ j ih =>
      intro c cur hc h1 h2 h3
      refine br_f (by rw [nI_leI (by omega) (by omega)]; omega) (nm_r (rb_ix r c) (nm_r (rb_1shl c (by omega)) ?_))
      rw [rb_andb (q + 1) (by omega) c (by omega), nI_clamp (by omega)]
      have es := rb_sum_s (g (q + 1)) c
      have skip : g (q + 1) c = 0 → wX_addRow_16 post J (nI r) wt (nI (q + 1)) (nI N) (j + 1) (nI (c + 1)) on w cur hm := by
        intro z
        rw [z, Int32.add_zero] at es
        exact ih (c + 1) cur (by omega) h1 (by rw [es]; exact h2) h3
      refine br_c (fun t => nm_r (nI_1 c) (skip (by rw [eg, t]; rfl))) (fun t => ⟨vp_in_nI (by omega) (by decide), br_c (fun o => nm_r (nI_1 c) (skip (by rw [eg, rb_Bf o, Bool.and_false]; rfl))) (fun o => ?_)⟩)
      have t' : (q + 1).testBit c = true := eq_true_of_ne_false t
      obtain ⟨m1, _, _⟩ := rb_mg hN hq (by omega) t'
      have hpos : 0 < 2 ^ c := Nat.two_pow_pos c
      have step : ∀ z : Int32, z = rb_fac wt w r (q + 1 - 2 ^ c) c → wX_addRow_72 post J (wX_addRow_16 post J (nI r) wt (nI (q + 1)) (nI N) (j + 1)) (nI r) wt (nI (q + 1)) (nI c) (nI (2 ^ c)) z (nI N) on w cur hm := by
        intro z ez
        unfold wX_addRow_72
        rw [pk_sub m1, nI_clamp (by omega), nI_clamp (by omega)]
        refine ⟨vp_in_nI (by omega) (by decide), vp_in_nI (by omega) (by decide), vp_in_nI (by omega) (by decide), nm_e (nm_r (nI_1 c) (ih (c + 1) _ (by omega) (fun m hm' => ?_) ?_ (fun m hm1 hm2 => ?_)))⟩
        · rw [pk_un (by omega)]; exact h1 m hm'
        · rw [pk_us, es, h2, h1 _ (by omega), Int32.add_assoc, eg, t', rb_Bt o, ez]
          rfl
        · rw [pk_un (by omega)]; exact h3 m hm1 hm2
      exact br_c (fun z => step _ (by unfold rb_fac; rw [if_pos z])) (fun z => ⟨vp_in_nI (by omega) (by decide), step _ (by unfold rb_fac; rw [if_neg z])⟩)
  have Out : ∀ (q : Nat) (cur : Nat → Int32), q < 2 ^ N → (∀ m, m < q + 1 → cur m = bm m) → (∀ m, q < m → m < 2 ^ N → cur m = bm m + rb_sum (g m) N) → wX_addRow_9 post (nI r) wt (nI N) (q + 1) (nI q) on w cur hm := by
    intro q
    induction q with
    | zero =>
      intro cur hq h1 h2
      refine br_t (nI_le (a := 0) (b := 0) (Nat.le_refl _) (by decide)) (h cur (fun m hm' => ?_))
      rw [erow]
      by_cases e : m = 0
      · rw [e, h1 0 (by omega), rb_sum_z (fun c _ => by rw [eg, Nat.zero_testBit]; rfl), Int32.add_zero]
      · exact h2 m (by omega) hm'
    | succ q ih =>
      intro cur hq h1 h2
      exact br_f (nI_nle (Nat.succ_pos q) (by omega)) ⟨_, In _ q hq (fun cur' g1 g2 => ih cur' (by omega) g1 g2) N 0 cur (by omega) (fun m hm' => h1 m (by omega)) (by rw [h1 (q + 1) (by omega)]; exact (Int32.add_zero _).symm) h2⟩
  unfold wpX_addRow
  dsimp only
  have e1 : (1 : Int32) <<< (nI N &&& 31) - 1 = nI (2 ^ N - 1) := by
    rw [rb_1shl N (by omega)]
    exact pk_sub (a := 2 ^ N) (b := 1) hp
  exact nm_r e1 ⟨_, Out (2 ^ N - 1) bm (by omega) (fun m _ => rfl) (fun m h1 h2 => by omega)⟩
theorem xb_total {post : Int32 → Prop} {N k : Nat} {on w bm hm : Nat → Int32} (hN : N ≤ 6) (hk : k ≤ N) (h : post (rb_sum (fun m => if rb_pc m = k then bm m else 0) (2 ^ N))) : wpX_totalOf post (nI N, on, w, bm, hm) (nI k) := by
  have h6 := rb_p6 hN
  have L : ∀ (j m : Nat), m + j = 2 ^ N → wX_totalOf_4 post (nI k) (nI N) on w bm hm (j + 1) (rb_sum (fun m => if rb_pc m = k then bm m else 0) m) (nI m) := by
    intro j
    induction j with
    | zero =>
      intro m hm'
      have : m = 2 ^ N := by omega
      subst this
      unfold wX_totalOf_4
      rw [rb_1shl N (by omega)]
      exact br_t (nI_le (Nat.le_refl _) (by omega)) h
    | succ j ih =>
      intro m hm'
      unfold wX_totalOf_4
      rw [rb_1shl N (by omega)]
      have es := rb_sum_s (fun m => if rb_pc m = k then bm m else 0) m
      have hpc := rb_pc_lt m
      refine br_f (nI_ge (by omega) (by omega)) (xb_bc (by omega) ?_)
      rw [nI_eq (by omega) (by omega), nI_clamp (by omega)]
      refine br_c (fun e => ⟨vp_in_nI (by omega) (by decide), nm_r (e' := rb_sum (fun m => if rb_pc m = k then bm m else 0) (m + 1)) ?_ (nm_r (nI_1 m) (ih (m + 1) (by omega)))⟩) (fun e => nm_r (nI_1 m) ?_)
      · rw [es, if_pos e]
      · rw [if_neg e, Int32.add_zero] at es
        rw [← es]
        exact ih (m + 1) (by omega)
  exact ⟨_, L (2 ^ N) 0 (by omega)⟩
theorem rb_dualr {N k d : Nat} {B : Nat → Bool} {w f : Nat → Nat → Nat → Int32} {v v' : Nat → Int32} (hw : ∀ m, w (N - (d + 1)) m N = 1) (hf : ∀ m c, c < N → w (N - (d + 1)) m c = f (N - (d + 1)) m c)
    (hv : ∀ m, m < 2 ^ N → v' m = v m + rb_row N B f (N - (d + 1)) v m) :
    rb_sum (fun m => v m * rb_CB N B w k (d + 1) m) (2 ^ N) = rb_sum (fun m => v' m * rb_CB N B w k d m) (2 ^ N) := by
  refine rb_dual hw (fun m hm => ?_)
  have : rb_row N B w (N - (d + 1)) v m = rb_row N B f (N - (d + 1)) v m := by
    unfold rb_row
    exact rb_sum_c (fun c hc => by rw [hf _ c hc])
  rw [this, hv m hm, Int32.add_mul]
theorem xb_cc {post : Int32 → SX → Prop} {N r0 u k : Nat} {on w bm hm : Nat → Int32} (hN : N ≤ 6) (hr : r0 ≤ N) (hu : u < 2 ^ N) (hk : k ≤ N)
    (h : ∀ bm', post (rb_CB N (rb_B on) rb_w1 k (N - r0) u) (nI N, on, w, bm', hm)) : wpX_countCompletions post (nI N, on, w, bm, hm) (nI r0) (nI u) (nI k) := by
  have h6 := rb_p6 hN
  have L : ∀ (j r : Nat) (cur : Nat → Int32), r + j = N → rb_sum (fun m => cur m * rb_CB N (rb_B on) rb_w1 k j m) (2 ^ N) = rb_CB N (rb_B on) rb_w1 k (N - r0) u → wX_countCompletions_8 post (nI k) (j + 1) (nI r) (nI N) on w cur hm := by
    intro j
    induction j with
    | zero =>
      intro r cur hj hs
      have : r = N := by omega
      subst this
      rw [rb_total] at hs
      exact br_t (nI_le (Nat.le_refl _) (by omega)) (xb_total hN hk (by rw [hs]; exact h cur))
    | succ j ih =>
      intro r cur hj hs
      refine br_f (by rw [nI_leI (by omega) (by omega)]; omega) (xb_addRow hN (by omega) (fun bm' hb => nm_r (nI_1 r) (ih (r + 1) bm' (by omega) ?_)))
      rw [← hs]
      have er : N - (j + 1) = r := by omega
      exact (rb_dualr (f := rb_fac 0 w) (fun m => rfl) (fun m c _ => (if_pos rfl).symm) (fun m hm' => by rw [er]; exact hb m hm')).symm
  unfold wpX_countCompletions
  dsimp only
  exact xb_start (by omega) (fun bm' hb => ⟨_, L (N - r0) r0 bm' (by omega) (rb_start hu (by rw [hb u (by omega), if_pos rfl]) (fun m hm' hne => by rw [hb m (by omega), if_neg hne]))⟩)
theorem xb_rooks {post : Int32 → SX → Prop} {N k : Nat} {on w bm hm : Nat → Int32} (hN : N ≤ 6) (hk : k ≤ N)
    (h : ∀ bm', post (nI (rb_PL N k (rb_B on)).length) (nI N, on, w, bm', hm)) : wpX_rooks post (nI N, on, w, bm, hm) (nI k) := by
  unfold wpX_rooks
  dsimp only
  refine xb_rc1 hN hk (br_f (by decide) (xb_cc (r0 := 0) (u := 0) hN (Nat.zero_le N) (Nat.two_pow_pos N) hk (fun bm' => ?_)))
  have := h bm'
  rw [← rb_PLn hN hk] at this
  exact this
theorem xb_rooks0 {post : Int32 → SX → Prop} {N : Nat} {v : Int32} {on w bm hm : Nat → Int32} (hN : N ≤ 6) (hk : ¬ ∃ k, k ≤ N ∧ v = nI k)
    (h : post (-1) (nI N, on, w, bm, hm)) : wpX_rooks post (nI N, on, w, bm, hm) v := by
  unfold wpX_rooks
  dsimp only
  exact xb_rc0 hN hk (br_t rfl h)
theorem xb_sum {post : Int32 → SX → Prop} {N k : Nat} {on w bm hm : Nat → Int32} (hN : N ≤ 6) (hk : k ≤ N)
    (h : ∀ bm', post (rb_CB N (rb_B on) (rb_wd N w) k N 0) (nI N, on, w, bm', hm)) : wpX_sum post (nI N, on, w, bm, hm) (nI k) := by
  have h6 := rb_p6 hN
  have L : ∀ (j r : Nat) (cur : Nat → Int32), r + j = N → rb_sum (fun m => cur m * rb_CB N (rb_B on) (rb_wd N w) k j m) (2 ^ N) = rb_CB N (rb_B on) (rb_wd N w) k N 0 → wX_sum_17 post (nI k) (j + 1) (nI r) (nI N) on w cur hm := by
    intro j
    induction j with
    | zero =>
      intro r cur hj hs
      have : r = N := by omega
      subst this
      rw [rb_total] at hs
      exact br_t (nI_le (Nat.le_refl _) (by omega)) (xb_total hN hk (by rw [hs]; exact h cur))
    | succ j ih =>
      intro r cur hj hs
      refine br_f (by rw [nI_leI (by omega) (by omega)]; omega) (xb_addRow hN (by omega) (fun bm' hb => nm_r (nI_1 r) (ih (r + 1) bm' (by omega) ?_)))
      rw [← hs]
      have er : N - (j + 1) = r := by omega
      exact (rb_dualr (f := rb_fac 1 w) (fun m => if_neg (Nat.lt_irrefl N)) (fun m c hc => by unfold rb_wd rb_fac; rw [if_pos hc, if_neg (by decide)]) (fun m hm' => by rw [er]; exact hb m hm')).symm
  unfold wpX_sum
  dsimp only
  refine xb_rc1 hN hk (br_f (by decide) (xb_start (u := 0) (by decide) (fun bm' hb => ⟨_, L N 0 bm' (by omega) (rb_start (Nat.two_pow_pos N) (by rw [hb 0 (by omega), if_pos rfl]) (fun m hm' hne => by rw [hb m (by omega), if_neg hne]))⟩)))
theorem xb_sum0 {post : Int32 → SX → Prop} {N : Nat} {v : Int32} {on w bm hm : Nat → Int32} (hN : N ≤ 6) (hk : ¬ ∃ k, k ≤ N ∧ v = nI k)
    (h : post (-1) (nI N, on, w, bm, hm)) : wpX_sum post (nI N, on, w, bm, hm) v := by
  unfold wpX_sum
  dsimp only
  exact xb_rc0 hN hk (br_t rfl h)
