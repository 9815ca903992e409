/-! Q: the class: through, most, needed -/
theorem xb_cwc {post : Int32 → SX → Prop} {N k r0 c0 : Nat} {on w bm hm : Nat → Int32} (hN : N ≤ 6) (hr : r0 < N) (hc : c0 < N) (hk : k ≤ N) (hon : ¬ on (6 * r0 + c0) = 0)
    (h : ∀ bm', post (rb_thr N (rb_B on) k (6 * r0 + c0)) (nI N, on, w, bm', hm)) : wpX_countWithCell post (nI N, on, w, bm, hm) (nI (6 * r0 + c0)) (nI k) := by
  have h6 := rb_p6 hN
  have et : rb_thr N (rb_B on) k (6 * r0 + c0) = rb_CB N (rb_B on) (rb_ws N r0) k N (2 ^ c0) := by
    unfold rb_thr
    rw [show (6 * r0 + c0) / 6 = r0 by omega, show (6 * r0 + c0) % 6 = c0 by omega, rb_forced hN hr hc (rb_Bt hon) N 0 (Nat.le_refl N) (by omega) (Nat.two_pow_pos N), Nat.zero_testBit, if_neg (by decide), Nat.zero_add]
  have hdiv := rb_div6 (r := r0) (c := c0) (by omega) (by omega)
  have L : ∀ (j r : Nat) (cur : Nat → Int32), r + j = N → rb_sum (fun m => cur m * rb_CB N (rb_B on) (rb_ws N r0) k j m) (2 ^ N) = rb_thr N (rb_B on) k (6 * r0 + c0) → wX_countWithCell_12 post (nI (6 * r0 + c0)) (nI k) (j + 1) (nI r) (nI N) on w cur hm := by
    intro j
    induction j with
    | zero =>
      intro r cur hj hs
      have : r = N := by omega
      subst this
      rw [rb_total] at hs
      exact br_t (nI_le (Nat.le_refl _) (by omega)) (xb_total hN hk (by rw [hs]; exact h cur))
    | succ j ih =>
      intro r cur hj hs
      have er : N - (j + 1) = r := by omega
      refine br_f (by rw [nI_leI (by omega) (by omega)]; omega) ⟨rb_60, ?_⟩
      rw [hdiv, nI_eq (by omega) (by omega)]
      have hwN : ∀ m, rb_ws N r0 (N - (j + 1)) m N = 1 := fun m => by
        unfold rb_ws
        split
        · exact if_pos rfl
        · rfl
      refine br_c (fun q => nm_r (nI_1 r) (ih (r + 1) cur (by omega) ?_)) (fun q => xb_addRow hN (by omega) (fun bm' hb => nm_r (nI_1 r) (ih (r + 1) bm' (by omega) ?_)))
      · rw [← hs]
        refine (rb_dual hwN (fun m hm' => ?_)).symm
        have : rb_row N (rb_B on) (rb_ws N r0) (N - (j + 1)) cur m = 0 := by
          unfold rb_row
          refine rb_sum_z (fun c hc' => ?_)
          rw [show rb_ws N r0 (N - (j + 1)) (m - 2 ^ c) c = 0 from by unfold rb_ws; rw [if_pos (by omega), if_neg (by omega)], Int32.mul_zero]
          exact ite_self _
        rw [this, Int32.zero_mul, Int32.add_zero]
      · rw [← hs]
        exact (rb_dualr (f := rb_fac 0 w) hwN (fun m c _ => by unfold rb_ws rb_fac; rw [if_neg (by omega), if_pos rfl]) (fun m hm' => by rw [er]; exact hb m hm')).symm
  have hc2 : 2 ^ c0 < 2 ^ N := Nat.pow_lt_pow_right (by decide) hc
  unfold wpX_countWithCell
  dsimp only
  rw [rb_rem6 (by omega) (by omega), rb_1shl c0 (by omega)]
  exact ⟨rb_60, xb_start (by omega) (fun bm' hb => ⟨_, L N 0 bm' (by omega) (by rw [et]; exact rb_start hc2 (by rw [hb _ (by omega), if_pos rfl]) (fun m hm' hne => by rw [hb m (by omega), if_neg hne]))⟩)⟩
theorem rb_thr0 {N k r0 c0 : Nat} {on : Nat → Int32} (hr : r0 < N) (hc : c0 < N) (hN : N ≤ 6) (hon : on (6 * r0 + c0) = 0) : rb_thr N (rb_B on) k (6 * r0 + c0) = 0 := by
  unfold rb_thr
  rw [show (6 * r0 + c0) / 6 = r0 by omega, show (6 * r0 + c0) % 6 = c0 by omega]
  exact rb_forced0 hr hc (rb_Bf hon) N 0 (Nat.le_refl N) (by omega)
theorem xb_through {post : Int32 → SX → Prop} {N k r0 c0 : Nat} {on w bm hm : Nat → Int32} (hN : N ≤ 6) (hr : r0 < N) (hc : c0 < N) (hk : k ≤ N)
    (h : ∀ bm', post (rb_thr N (rb_B on) k (6 * r0 + c0)) (nI N, on, w, bm', hm)) : wpX_through post (nI N, on, w, bm, hm) (nI (6 * r0 + c0)) (nI k) := by
  unfold wpX_through
  dsimp only
  refine xb_cell1 hN hr hc (br_f (by decide) (xb_rc1 hN hk (br_f (by decide) ⟨vp_in_nI (by omega) (by decide), ?_⟩)))
  rw [nI_clamp (by omega)]
  refine br_c (fun o => ?_) (fun o => xb_cwc hN hr hc hk o h)
  have := h bm
  rw [rb_thr0 hr hc hN o] at this
  exact this
theorem xb_through0 {post : Int32 → SX → Prop} {N : Nat} {v v2 : Int32} {on w bm hm : Nat → Int32} (hN : N ≤ 6) (hk : ¬ ((∃ r c, r < N ∧ c < N ∧ v = nI (6 * r + c)) ∧ ∃ k, k ≤ N ∧ v2 = nI k))
    (h : post (-1) (nI N, on, w, bm, hm)) : wpX_through post (nI N, on, w, bm, hm) v v2 := by
  unfold wpX_through
  dsimp only
  by_cases q : ∃ r c, r < N ∧ c < N ∧ v = nI (6 * r + c)
  · obtain ⟨r, c, hr, hc, rfl⟩ := q
    exact xb_cell1 hN hr hc (br_f (by decide) (xb_rc0 hN (fun t => hk ⟨⟨r, c, hr, hc, rfl⟩, t⟩) (br_t rfl h)))
  · exact xb_cell0 hN q (br_t rfl h)
theorem xb_great {post : Int32 → SX → Prop} {N K : Nat} {on w bm hm : Nat → Int32} (hN : N ≤ 6) (hK : rb_mostP N (rb_B on) K)
    (h : ∀ bm', post (nI K) (nI N, on, w, bm', hm)) : wpX_greatestCount post (nI N, on, w, bm, hm) := by
  obtain ⟨k1, k2, k3⟩ := hK
  have L : ∀ (j i g : Nat) (cur : Nat → Int32), i + j = N + 1 → (i ≤ K → g ≤ N) → (K < i → g = K) → wX_greatestCount_4 post (j + 1) (nI g) (nI i) (nI N) on w cur hm := by
    intro j
    induction j with
    | zero =>
      intro i g cur hi h1 h2
      rw [h2 (by omega)]
      exact br_t (nI_lt (by omega) (by omega)) (h cur)
    | succ j ih =>
      intro i g cur hi h1 h2
      refine br_f (by rw [nI_ltI (by omega) (by omega)]; omega) (xb_cc (r0 := 0) (u := 0) hN (Nat.zero_le N) (Nat.two_pow_pos N) (by omega) (fun bm' => ?_))
      have e : rb_CB N (rb_B on) rb_w1 i (N - 0) 0 = nI (rb_PL N i (rb_B on)).length := rb_PLn hN (by omega)
      rw [e]
      have hlt := rb_PLlt (k := i) (B := rb_B on) hN
      by_cases q : rb_PL N i (rb_B on) = []
      · refine br_t (by rw [q]; exact nI_le (a := 0) (b := 0) (Nat.le_refl _) (by decide)) (nm_r (nI_1 i) (ih (i + 1) g bm' (by omega) (fun t => h1 (by omega)) (fun t => ?_)))
        by_cases z : i = K
        · rw [z] at q; exact absurd q k2
        · exact h2 (by omega)
      · have hl : 0 < (rb_PL N i (rb_B on)).length := List.length_pos_iff.mpr q
        refine br_f (nI_nle hl hlt) (nm_r (nI_1 i) (ih (i + 1) i bm' (by omega) (fun t => by omega) (fun t => ?_)))
        rcases Nat.lt_or_ge K i with z | z
        · exact absurd (k3 i z (by omega)) q
        · omega
  exact ⟨_, L N 1 0 bm (by omega) (fun _ => Nat.zero_le N) (fun z => by omega)⟩
theorem xb_most {post : Int32 → SX → Prop} {N K : Nat} {on w bm hm : Nat → Int32} (hN : N ≤ 6) (hK : rb_mostP N (rb_B on) K)
    (h : ∀ bm', post (nI K) (nI N, on, w, bm', hm)) : wpX_most post (nI N, on, w, bm, hm) := by
  unfold wpX_most
  dsimp only
  exact xb_great hN hK h
/-- a sum over the cells, row by row -/
def rb_s2 (f : Nat → Int32) (N r : Nat) : Int32 := rb_sum (fun i => rb_sum (fun c => f (6 * i + c)) N) r
theorem rb_s2_s (f : Nat → Int32) (N r : Nat) : rb_s2 f N (r + 1) = rb_s2 f N r + rb_sum (fun c => f (6 * r + c)) N := rfl
theorem rb_36 (f : Nat → Int32) : ∀ r, rb_sum f (6 * r) = rb_s2 f 6 r := by
  intro r
  induction r with
  | zero => rfl
  | succ r ih => rw [show 6 * (r + 1) = 6 * r + 6 by omega, rb_sum_p, ih, rb_s2_s]
theorem rb_cut {f : Nat → Int32} {a b : Nat} (hab : a ≤ b) (h : ∀ i, a ≤ i → i < b → f i = 0) : rb_sum f b = rb_sum f a := by
  obtain ⟨d, rfl⟩ : ∃ d, b = a + d := ⟨b - a, by omega⟩
  rw [rb_sum_p, rb_sum_z (fun i hi => h (a + i) (by omega) (by omega)), Int32.add_zero]
theorem rb_s36 {f : Nat → Int32} {N : Nat} (hN : N ≤ 6) (h : ∀ r c, r < 6 → c < 6 → (N ≤ r ∨ N ≤ c) → f (6 * r + c) = 0) : rb_sum f 36 = rb_s2 f N N := by
  rw [show 36 = 6 * 6 from rfl, rb_36]
  unfold rb_s2
  rw [rb_cut hN (fun i h1 h2 => rb_sum_z (fun c hc => h i c h2 hc (Or.inl h1)))]
  exact rb_sum_c (fun i hi => rb_cut hN (fun c h1 h2 => h i c (by omega) h2 (Or.inr h1)))
theorem xb_needed {post : Int32 → SX → Prop} {N K : Nat} {on w bm hm : Nat → Int32} (hN : N ≤ 6) (hK : rb_mostP N (rb_B on) K)
    (h : ∀ bm', post (rb_s2 (rb_nd N on K) N N) (nI N, on, w, bm', hm)) : wpX_needed post (nI N, on, w, bm, hm) := by
  unfold wpX_needed
  dsimp only
  refine xb_great hN hK (fun bm' => xb_cc (r0 := 0) (u := 0) hN (Nat.zero_le N) (Nat.two_pow_pos N) hK.1 (fun bm' => ?_))
  have e : rb_CB N (rb_B on) rb_w1 K (N - 0) 0 = nI (rb_PL N K (rb_B on)).length := rb_PLn hN hK.1
  rw [e]
  have In : ∀ (J : Int32 → Int32 → Int32 → (Nat → Int32) → (Nat → Int32) → (Nat → Int32) → (Nat → Int32) → Prop) (r : Nat), r < N →
      (∀ cur, J (rb_s2 (rb_nd N on K) N (r + 1)) (nI (r + 1)) (nI N) on w cur hm) →
      ∀ (j c : Nat) (cur : Nat → Int32), c + j = N → wX_needed_30 post J (nI K) (nI (rb_PL N K (rb_B on)).length) (nI r) (j + 1) (rb_s2 (rb_nd N on K) N r + rb_sum (fun c => rb_nd N on K (6 * r + c)) c) (nI c) (nI N) on w cur hm := by
    intro J r hr hJ j
    induction j with
    | zero =>
      intro c cur hc
      have : c = N := by omega
      subst this
      exact br_t (nI_le (Nat.le_refl _) (by omega)) (nm_r (nI_1 r) (hJ cur))
    | succ j ih =>
      intro c cur hc
      have es := rb_sum_s (fun c => rb_nd N on K (6 * r + c)) c
      refine br_f (by rw [nI_leI (by omega) (by omega)]; omega) (nm_r (rb_ix r c) ⟨vp_in_nI (by omega) (by decide), ?_⟩)
      rw [nI_clamp (by omega)]
      refine br_c (fun o => nm_r (nI_1 c) ?_) (fun o => xb_cwc hN hr (by omega) hK.1 o (fun bm' => ?_))
      · have := ih (c + 1) cur (by omega)
        rw [es, show rb_nd N on K (6 * r + c) = 0 from if_pos o, Int32.add_zero] at this
        exact this
      · have e3 : rb_nd N on K (6 * r + c) = if rb_thr N (rb_B on) K (6 * r + c) = nI (rb_PL N K (rb_B on)).length then 1 else 0 := if_neg o
        have := ih (c + 1) bm' (by omega)
        rw [es, e3] at this
        refine br_c (fun t => ?_) (fun t => ?_)
        · rw [if_pos t, ← Int32.add_assoc] at this
          exact nm_e (nm_r (nI_1 c) this)
        · rw [if_neg t, Int32.add_zero] at this
          exact nm_r (nI_1 c) this
  have Out : ∀ (j r : Nat) (cur : Nat → Int32), r + j = N → wX_needed_18 post (nI K) (nI (rb_PL N K (rb_B on)).length) (j + 1) (rb_s2 (rb_nd N on K) N r) (nI r) (nI N) on w cur hm := by
    intro j
    induction j with
    | zero =>
      intro r cur hr
      have : r = N := by omega
      subst this
      exact br_t (nI_le (Nat.le_refl _) (by omega)) (h cur)
    | succ j ih =>
      intro r cur hr
      have := In _ r (by omega) (fun cur => ih (r + 1) cur (by omega)) N 0 cur (by omega)
      rw [show rb_sum (fun c => rb_nd N on K (6 * r + c)) 0 = 0 from rfl, Int32.add_zero] at this
      exact br_f (by rw [nI_leI (by omega) (by omega)]; omega) ⟨_, this⟩
  exact ⟨_, Out N 0 bm' (by omega)⟩
theorem xb_countCells {post : Int32 → Prop} {N : Nat} {on w bm hm : Nat → Int32} (hN : N ≤ 6) (h : post (rb_s2 (rb_c1 on) N N)) : wpX_countCells post (nI N, on, w, bm, hm) := by
  have In : ∀ (J : Int32 → Int32 → Prop) (r : Nat), r < N → J (rb_s2 (rb_c1 on) N (r + 1)) (nI (r + 1)) →
      ∀ (j c : Nat), c + j = N → wX_countCells_14 post J (nI r) (nI N) on w bm hm (j + 1) (rb_s2 (rb_c1 on) N r + rb_sum (fun c => rb_c1 on (6 * r + c)) c) (nI c) := by
    intro J r hr hJ j
    induction j with
    | zero =>
      intro c hc
      have : c = N := by omega
      subst this
      exact br_t (nI_le (Nat.le_refl _) (by omega)) (nm_r (nI_1 r) hJ)
    | succ j ih =>
      intro c hc
      have es := rb_sum_s (fun c => rb_c1 on (6 * r + c)) c
      refine br_f (by rw [nI_leI (by omega) (by omega)]; omega) ?_
      rw [rb_ix, nI_clamp (by omega)]
      have := ih (c + 1) (by omega)
      refine ⟨vp_in_nI (by omega) (by decide), br_c (fun o => nm_r (nI_1 c) ?_) (fun o => ?_)⟩
      · rw [es, show rb_c1 on (6 * r + c) = 0 from if_pos o, Int32.add_zero] at this
        exact this
      · rw [es, show rb_c1 on (6 * r + c) = 1 from if_neg o, ← Int32.add_assoc] at this
        exact nm_e (nm_r (nI_1 c) this)
  have Out : ∀ (j r : Nat), r + j = N → wX_countCells_4 post (nI N) on w bm hm (j + 1) (rb_s2 (rb_c1 on) N r) (nI r) := by
    intro j
    induction j with
    | zero =>
      intro r hr
      have : r = N := by omega
      subst this
      exact br_t (nI_le (Nat.le_refl _) (by omega)) h
    | succ j ih =>
      intro r hr
      have := In _ r (by omega) (ih (r + 1) (by omega)) N 0 (by omega)
      rw [show rb_sum (fun c => rb_c1 on (6 * r + c)) 0 = 0 from rfl, Int32.add_zero] at this
      exact br_f (by rw [nI_leI (by omega) (by omega)]; omega) ⟨_, this⟩
  exact ⟨_, Out N 0 (by omega)⟩
