/-! T: what changes the board -/
def rb_sw (f : Nat → Int32) (p q : Nat) : Nat → Int32 := upd (upd f p (f q)) q (f p)
def rb_swn (f : Nat → Int32) (p q : Nat) : Nat → Int32 := upd (upd f p (vp_nar .boolean (f q))) q (vp_nar .boolean (f p))
theorem rb_vb0 : vp_nar .boolean 0 = 0 := by decide
theorem rb_vb1 : vp_nar .boolean 1 = 1 := by decide
theorem rb_vb {x : Int32} (h : x = 0 ∨ x = 1) : vp_nar .boolean x = x := by
  rcases h with rfl | rfl
  · exact rb_vb0
  · exact rb_vb1
theorem rb_swn_e {f : Nat → Int32} (h : ∀ x, f x = 0 ∨ f x = 1) (p q : Nat) : rb_swn f p q = rb_sw f p q := by
  unfold rb_swn rb_sw
  rw [rb_vb (h p), rb_vb (h q)]
theorem rb_sw_p {f : Nat → Int32} {p q : Nat} : rb_sw f p q p = f q := by
  unfold rb_sw
  by_cases e : p = q
  · subst e; rw [pk_us]
  · rw [pk_un e, pk_us]
theorem rb_sw_q {f : Nat → Int32} {p q : Nat} : rb_sw f p q q = f p := pk_us
theorem rb_sw_n {f : Nat → Int32} {p q x : Nat} (h1 : x ≠ p) (h2 : x ≠ q) : rb_sw f p q x = f x := by
  unfold rb_sw
  rw [pk_un h2, pk_un h1]
theorem rb_sw_P {P : Int32 → Prop} {f : Nat → Int32} {p q : Nat} (h : ∀ x, P (f x)) : ∀ x, P (rb_sw f p q x) := by
  intro x
  by_cases e1 : x = p
  · rw [e1, rb_sw_p]; exact h q
  · by_cases e2 : x = q
    · rw [e2, rb_sw_q]; exact h p
    · rw [rb_sw_n e1 e2]; exact h x
theorem xb_swap {post : SX → Prop} {N p q : Nat} {on w bm hm : Nat → Int32} (hp : p < 36) (hq : q < 36) (h : post (nI N, rb_swn on p q, rb_sw w p q, bm, hm)) : wpX_swapCells post (nI N, on, w, bm, hm) (nI p) (nI q) := by
  unfold wpX_swapCells
  dsimp only
  have ep := nI_clamp (n := p) (by omega)
  have eq := nI_clamp (n := q) (by omega)
  rw [ep, eq]
  have ip := vp_in_nI (N := 36) hp (by decide)
  have iq := vp_in_nI (N := 36) hq (by decide)
  exact ⟨ip, nm_e ⟨iq, ip, nm_e ⟨iq, nm_e ⟨ip, nm_e ⟨iq, ip, nm_e ⟨iq, nm_e h⟩⟩⟩⟩⟩⟩
theorem yb_swap {post : SY → Prop} {N p q : Nat} {x y z any : Int32} {on w a : Nat → Int32} (hp : p < 36) (hq : q < 36) (h : post (nI N, x, y, z, any, rb_swn on p q, rb_sw w p q, a)) : wpY_swap post (nI N, x, y, z, any, on, w, a) (nI p) (nI q) := by
  unfold wpY_swap
  dsimp only
  have ep := nI_clamp (n := p) (by omega)
  have eq := nI_clamp (n := q) (by omega)
  rw [ep, eq]
  have ip := vp_in_nI (N := 36) hp (by decide)
  have iq := vp_in_nI (N := 36) hq (by decide)
  exact ⟨ip, nm_e ⟨iq, ip, nm_e ⟨iq, nm_e ⟨ip, nm_e ⟨iq, ip, nm_e ⟨iq, nm_e h⟩⟩⟩⟩⟩⟩
/-! exchange -/
def rb_exn (i j : Nat) (f : Nat → Int32) : Nat → Nat → Int32
  | 0 => f
  | c + 1 => rb_swn (rb_exn i j f c) (6 * i + c) (6 * j + c)
def rb_exw (i j : Nat) (f : Nat → Int32) : Nat → Nat → Int32
  | 0 => f
  | c + 1 => rb_sw (rb_exw i j f c) (6 * i + c) (6 * j + c)
theorem xb_exchange {post : Int32 → SX → Prop} {N i j : Nat} {on w bm hm : Nat → Int32} (hN : N ≤ 6) (hi : i < N) (hj : j < N) (h : post 0 (nI N, rb_exn i j on N, rb_exw i j w N, bm, hm)) : wpX_exchange post (nI N, on, w, bm, hm) (nI i) (nI j) := by
  have L : ∀ (q c : Nat), c + q = N → wX_exchange_20 post (nI i) (nI j) (q + 1) (nI c) (nI N) (rb_exn i j on c) (rb_exw i j w c) bm hm := by
    intro q
    induction q with
    | zero =>
      intro c hc
      have : c = N := by omega
      subst this
      exact br_t (nI_le (Nat.le_refl _) (by omega)) h
    | succ q ih =>
      intro c hc
      refine br_f (by rw [nI_leI (by omega) (by omega)]; omega) ?_
      rw [rb_ix, rb_ix]
      exact xb_swap (by omega) (by omega) (nm_r (nI_1 c) (ih (c + 1) (by omega)))
  unfold wpX_exchange
  dsimp only
  exact xb_line1 hN hi (br_f (by decide) (xb_line1 hN hj (br_f (by decide) ⟨_, L N 0 (by omega)⟩)))
theorem xb_exchange0 {post : Int32 → SX → Prop} {N : Nat} {v v2 : Int32} {on w bm hm : Nat → Int32} (hN : N ≤ 6) (hk : ¬ ((∃ k, k < N ∧ v = nI k) ∧ ∃ k, k < N ∧ v2 = nI k)) (h : post (-1) (nI N, on, w, bm, hm)) : wpX_exchange post (nI N, on, w, bm, hm) v v2 := by
  unfold wpX_exchange
  dsimp only
  by_cases q : ∃ k, k < N ∧ v = nI k
  · obtain ⟨k, hk1, rfl⟩ := q
    exact xb_line1 hN hk1 (br_f (by decide) (xb_line0 hN (fun t => hk ⟨⟨k, hk1, rfl⟩, t⟩) (br_t rfl h)))
  · exact xb_line0 hN q (br_t rfl h)
theorem yb_exchange {post : Int32 → SY → Prop} {N i j : Nat} {x y z any : Int32} {on w a : Nat → Int32} (hN : N ≤ 6) (hi : i < N) (hj : j < N) (h : post 0 (nI N, x, y, z, any, rb_exn i j on N, rb_exw i j w N, a)) : wpY_exchange post (nI N, x, y, z, any, on, w, a) (nI i) (nI j) := by
  have L : ∀ (q c : Nat), c + q = N → wY_exchange_20 post (nI i) (nI j) (q + 1) (nI c) (nI N) x y z any (rb_exn i j on c) (rb_exw i j w c) a := by
    intro q
    induction q with
    | zero =>
      intro c hc
      have : c = N := by omega
      subst this
      exact br_t (nI_le (Nat.le_refl _) (by omega)) h
    | succ q ih =>
      intro c hc
      refine br_f (by rw [nI_leI (by omega) (by omega)]; omega) ?_
      rw [rb_ix, rb_ix]
      exact yb_swap (by omega) (by omega) (nm_r (nI_1 c) (ih (c + 1) (by omega)))
  unfold wpY_exchange
  dsimp only
  exact yb_noRow0 hN hi (br_t rfl (yb_noRow0 hN hj (br_t rfl ⟨_, L N 0 (by omega)⟩)))
theorem yb_exchange1 {post : Int32 → SY → Prop} {N : Nat} {v v2 x y z any : Int32} {on w a : Nat → Int32} (hN : N ≤ 6) (hk : ¬ ((∃ k, k < N ∧ v = nI k) ∧ ∃ k, k < N ∧ v2 = nI k)) (h : post (-1) (nI N, x, y, z, any, on, w, a)) : wpY_exchange post (nI N, x, y, z, any, on, w, a) v v2 := by
  unfold wpY_exchange
  dsimp only
  by_cases q : ∃ k, k < N ∧ v = nI k
  · obtain ⟨k, hk1, rfl⟩ := q
    exact yb_noRow0 hN hk1 (br_t rfl (yb_noRow1 hN (fun t => hk ⟨⟨k, hk1, rfl⟩, t⟩) (br_f (by decide) h)))
  · exact yb_noRow1 hN q (br_f (by decide) h)
/-- the board holds zeros and ones, and nothing outside -/
def rb_OK (N : Nat) (on : Nat → Int32) : Prop := (∀ x, on x = 0 ∨ on x = 1) ∧ ∀ r c, r < 6 → c < 6 → (N ≤ r ∨ N ≤ c) → on (6 * r + c) = 0
theorem rb_OK_ex {N i j : Nat} {on : Nat → Int32} (hN : N ≤ 6) (hi : i < N) (hj : j < N) (h : rb_OK N on) : ∀ c, c ≤ N → rb_OK N (rb_exn i j on c) := by
  intro c
  induction c with
  | zero => intro _; exact h
  | succ c ih =>
    intro hc
    obtain ⟨h1, h2⟩ := ih (by omega)
    show rb_OK N (rb_swn (rb_exn i j on c) (6 * i + c) (6 * j + c))
    rw [rb_swn_e h1]
    refine ⟨rb_sw_P (P := fun x => x = 0 ∨ x = 1) h1, fun r q hr hq ho => ?_⟩
    rw [rb_sw_n (by omega) (by omega)]
    exact h2 r q hr hq ho
/-! turn -/
def rb_TI (f : Nat → Int32) (D : Nat → Nat → Prop) (cur : Nat → Int32) : Prop :=
  (∀ i j, i < 6 → j < 6 → (D i j → cur (6 * i + j) = f (6 * j + i)) ∧ (¬ D i j → cur (6 * i + j) = f (6 * i + j))) ∧ ∀ x, 36 ≤ x → cur x = f x
theorem rb_TI_s {f cur : Nat → Int32} {D D' : Nat → Nat → Prop} {r c : Nat} (h : rb_TI f D cur) (hr : r < 6) (hc : c < 6) (n1 : ¬ D r c) (n2 : ¬ D c r)
    (hD : ∀ i j, i < 6 → j < 6 → (D' i j ↔ D i j ∨ (i = r ∧ j = c) ∨ (i = c ∧ j = r))) : rb_TI f D' (rb_sw cur (6 * r + c) (6 * c + r)) := by
  obtain ⟨h1, h2⟩ := h
  refine ⟨fun i j hi hj => ?_, fun x hx => ?_⟩
  · rw [hD i j hi hj]
    by_cases e1 : i = r ∧ j = c
    · obtain ⟨rfl, rfl⟩ := e1
      refine ⟨fun _ => ?_, fun z => absurd (Or.inr (Or.inl ⟨rfl, rfl⟩)) z⟩
      rw [rb_sw_p]
      exact (h1 j i hj hi).2 n2
    · by_cases e2 : i = c ∧ j = r
      · obtain ⟨rfl, rfl⟩ := e2
        refine ⟨fun _ => ?_, fun z => absurd (Or.inr (Or.inr ⟨rfl, rfl⟩)) z⟩
        rw [rb_sw_q]
        exact (h1 j i hj hi).2 n1
      · rw [rb_sw_n (by omega) (by omega)]
        exact ⟨fun z => (h1 i j hi hj).1 (z.elim id (fun y => y.elim (fun y => absurd y e1) (fun y => absurd y e2))), fun z => (h1 i j hi hj).2 (fun y => z (Or.inl y))⟩
  · rw [rb_sw_n (by omega) (by omega)]
    exact h2 x hx
theorem rb_TI_c {f cur : Nat → Int32} {D D' : Nat → Nat → Prop} (h : rb_TI f D cur) (hD : ∀ i j, i < 6 → j < 6 → (D' i j ↔ D i j)) : rb_TI f D' cur := by
  obtain ⟨h1, h2⟩ := h
  refine ⟨fun i j hi hj => ?_, h2⟩
  rw [hD i j hi hj]
  exact h1 i j hi hj
theorem rb_TI_u {f cur cur' : Nat → Int32} {D : Nat → Nat → Prop} (h : rb_TI f D cur) (h' : rb_TI f D cur') : cur = cur' := by
  funext x
  by_cases hx : x < 36
  · obtain ⟨i, j, hi, hj, rfl⟩ : ∃ i j, i < 6 ∧ j < 6 ∧ x = 6 * i + j := ⟨x / 6, x % 6, by omega, by omega, by omega⟩
    by_cases d : D i j
    · rw [(h.1 i j hi hj).1 d, (h'.1 i j hi hj).1 d]
    · rw [(h.1 i j hi hj).2 d, (h'.1 i j hi hj).2 d]
  · rw [h.2 x (by omega), h'.2 x (by omega)]
theorem rb_TI_P {P : Int32 → Prop} {f cur : Nat → Int32} {D : Nat → Nat → Prop} (h : rb_TI f D cur) (hP : ∀ x, P (f x)) : ∀ x, P (cur x) := by
  intro x
  by_cases hx : x < 36
  · obtain ⟨i, j, hi, hj, rfl⟩ : ∃ i j, i < 6 ∧ j < 6 ∧ x = 6 * i + j := ⟨x / 6, x % 6, by omega, by omega, by omega⟩
    by_cases d : D i j
    · rw [(h.1 i j hi hj).1 d]; exact hP _
    · rw [(h.1 i j hi hj).2 d]; exact hP _
  · rw [h.2 x (by omega)]; exact hP x
def rb_DF (N : Nat) : Nat → Nat → Prop := fun i j => i < N ∧ j < N ∧ i ≠ j
def rb_DX (N r c : Nat) : Nat → Nat → Prop := fun i j => i < N ∧ j < N ∧ ((i < j ∧ (i < r ∨ (i = r ∧ j < c))) ∨ (j < i ∧ (j < r ∨ (j = r ∧ i < c))))
def rb_DY (N r c : Nat) : Nat → Nat → Prop := fun i j => i < N ∧ j < N ∧ ((i < j ∧ (j < r ∨ (j = r ∧ i < c))) ∨ (j < i ∧ (i < r ∨ (i = r ∧ j < c))))
theorem xb_turn {post : Int32 → SX → Prop} {N : Nat} {on w bm hm : Nat → Int32} (hN : N ≤ 6) (hon : ∀ x, on x = 0 ∨ on x = 1)
    (h : ∀ on' w', rb_TI on (rb_DF N) on' → rb_TI w (rb_DF N) w' → post 0 (nI N, on', w', bm, hm)) : wpX_turn post (nI N, on, w, bm, hm) := by
  have In : ∀ (J : Int32 → Int32 → (Nat → Int32) → (Nat → Int32) → (Nat → Int32) → (Nat → Int32) → Prop) (r : Nat), r < N →
      (∀ co cw, rb_TI on (rb_DX N r N) co → rb_TI w (rb_DX N r N) cw → J (nI (r + 1)) (nI N) co cw bm hm) →
      ∀ (q c : Nat) (co cw : Nat → Int32), c + q = N → r < c → rb_TI on (rb_DX N r c) co → rb_TI w (rb_DX N r c) cw → wX_turn_14 post J (nI r) (q + 1) (nI c) (nI N) co cw bm hm := by
    intro J r hr hJ q
    induction q with
    | zero =>
      intro c co cw hc hrc h1 h2
      have : c = N := by omega
      subst this
      exact br_t (nI_le (Nat.le_refl _) (by omega)) (nm_r (nI_1 r) (hJ co cw h1 h2))
    | succ q ih =>
      intro c co cw hc hrc h1 h2
      refine br_f (by rw [nI_leI (by omega) (by omega)]; omega) ?_
      rw [rb_ix, rb_ix]
      have e := rb_swn_e (rb_TI_P (P := fun x => x = 0 ∨ x = 1) h1 hon) (6 * r + c) (6 * c + r)
      have hD : ∀ i j, i < 6 → j < 6 → (rb_DX N r (c + 1) i j ↔ rb_DX N r c i j ∨ (i = r ∧ j = c) ∨ (i = c ∧ j = r)) := by
        intro i j hi hj; unfold rb_DX; omega
      have n1 : ¬ rb_DX N r c r c := by unfold rb_DX; omega
      have n2 : ¬ rb_DX N r c c r := by unfold rb_DX; omega
      refine xb_swap (by omega) (by omega) (nm_r (nI_1 c) (ih (c + 1) _ _ (by omega) (by omega) ?_ (rb_TI_s h2 (by omega) (by omega) n1 n2 hD)))
      rw [e]
      exact rb_TI_s h1 (by omega) (by omega) n1 n2 hD
  have Out : ∀ (q r : Nat) (co cw : Nat → Int32), r + q = N → rb_TI on (rb_DX N r 0) co → rb_TI w (rb_DX N r 0) cw → wX_turn_2 post (q + 1) (nI r) (nI N) co cw bm hm := by
    intro q
    induction q with
    | zero =>
      intro r co cw hr h1 h2
      have : r = N := by omega
      subst this
      have hD : ∀ i j, i < 6 → j < 6 → (rb_DF r i j ↔ rb_DX r r 0 i j) := by
        intro i j hi hj; unfold rb_DF rb_DX; omega
      exact br_t (nI_le (Nat.le_refl _) (by omega)) (h co cw (rb_TI_c h1 hD) (rb_TI_c h2 hD))
    | succ q ih =>
      intro r co cw hr h1 h2
      have hD0 : ∀ i j, i < 6 → j < 6 → (rb_DX N r (r + 1) i j ↔ rb_DX N r 0 i j) := by
        intro i j hi hj; unfold rb_DX; omega
      have hD1 : ∀ i j, i < 6 → j < 6 → (rb_DX N (r + 1) 0 i j ↔ rb_DX N r N i j) := by
        intro i j hi hj; unfold rb_DX; omega
      exact br_f (by rw [nI_leI (by omega) (by omega)]; omega) (nm_r (nI_1 r) ⟨_, In _ r (by omega) (fun co' cw' g1 g2 => ih (r + 1) co' cw' (by omega) (rb_TI_c g1 hD1) (rb_TI_c g2 hD1)) (N - (r + 1)) (r + 1) co cw (by omega) (by omega) (rb_TI_c h1 hD0) (rb_TI_c h2 hD0)⟩)
  have z : ∀ f : Nat → Int32, rb_TI f (rb_DX N 0 0) f := fun f => ⟨fun i j hi hj => ⟨fun d => by unfold rb_DX at d; omega, fun _ => rfl⟩, fun _ _ => rfl⟩
  exact ⟨_, Out N 0 on w (by omega) (z on) (z w)⟩
theorem yb_turn {post : Int32 → SY → Prop} {N : Nat} {x y z any : Int32} {on w a : Nat → Int32} (hN : N ≤ 6) (hon : ∀ x, on x = 0 ∨ on x = 1)
    (h : ∀ on' w', rb_TI on (rb_DF N) on' → rb_TI w (rb_DF N) w' → post 0 (nI N, x, y, z, any, on', w', a)) : wpY_turn post (nI N, x, y, z, any, on, w, a) := by
  have In : ∀ (J : Int32 → Int32 → Int32 → Int32 → Int32 → Int32 → (Nat → Int32) → (Nat → Int32) → (Nat → Int32) → Prop) (r : Nat), r < N →
      (∀ co cw, rb_TI on (rb_DY N r r) co → rb_TI w (rb_DY N r r) cw → J (nI (r + 1)) (nI N) x y z any co cw a) →
      ∀ (q c : Nat) (co cw : Nat → Int32), c + q = r → rb_TI on (rb_DY N r c) co → rb_TI w (rb_DY N r c) cw → wY_turn_12 post J (nI r) (q + 1) (nI c) (nI N) x y z any co cw a := by
    intro J r hr hJ q
    induction q with
    | zero =>
      intro c co cw hc h1 h2
      have : c = r := by omega
      subst this
      exact br_t (nI_le (Nat.le_refl _) (by omega)) (nm_r (nI_1 c) (hJ co cw h1 h2))
    | succ q ih =>
      intro c co cw hc h1 h2
      refine br_f (by rw [nI_leI (by omega) (by omega)]; omega) ?_
      rw [rb_ix, rb_ix]
      have e := rb_swn_e (rb_TI_P (P := fun x => x = 0 ∨ x = 1) h1 hon) (6 * r + c) (6 * c + r)
      have hD : ∀ i j, i < 6 → j < 6 → (rb_DY N r (c + 1) i j ↔ rb_DY N r c i j ∨ (i = r ∧ j = c) ∨ (i = c ∧ j = r)) := by
        intro i j hi hj; unfold rb_DY; omega
      have n1 : ¬ rb_DY N r c r c := by unfold rb_DY; omega
      have n2 : ¬ rb_DY N r c c r := by unfold rb_DY; omega
      refine yb_swap (by omega) (by omega) (nm_r (nI_1 c) (ih (c + 1) _ _ (by omega) ?_ (rb_TI_s h2 (by omega) (by omega) n1 n2 hD)))
      rw [e]
      exact rb_TI_s h1 (by omega) (by omega) n1 n2 hD
  have Out : ∀ (q r : Nat) (co cw : Nat → Int32), r + q = N → rb_TI on (rb_DY N r 0) co → rb_TI w (rb_DY N r 0) cw → wY_turn_2 post (q + 1) (nI r) (nI N) x y z any co cw a := by
    intro q
    induction q with
    | zero =>
      intro r co cw hr h1 h2
      have : r = N := by omega
      subst this
      have hD : ∀ i j, i < 6 → j < 6 → (rb_DF r i j ↔ rb_DY r r 0 i j) := by
        intro i j hi hj; unfold rb_DF rb_DY; omega
      exact br_t (nI_le (Nat.le_refl _) (by omega)) (h co cw (rb_TI_c h1 hD) (rb_TI_c h2 hD))
    | succ q ih =>
      intro r co cw hr h1 h2
      have hD1 : ∀ i j, i < 6 → j < 6 → (rb_DY N (r + 1) 0 i j ↔ rb_DY N r r i j) := by
        intro i j hi hj; unfold rb_DY; omega
      exact br_f (by rw [nI_leI (by omega) (by omega)]; omega) ⟨_, In _ r (by omega) (fun co' cw' g1 g2 => ih (r + 1) co' cw' (by omega) (rb_TI_c g1 hD1) (rb_TI_c g2 hD1)) r 0 co cw (by omega) h1 h2⟩
  have z' : ∀ f : Nat → Int32, rb_TI f (rb_DY N 0 0) f := fun f => ⟨fun i j hi hj => ⟨fun d => by unfold rb_DY at d; omega, fun _ => rfl⟩, fun _ _ => rfl⟩
  exact ⟨_, Out N 0 on w (by omega) (z' on) (z' w)⟩
/-! complement -/
def rb_fl (v : Int32) : Int32 := if v = 0 then 1 else 0
def rb_cp (N : Nat) (on : Nat → Int32) : Nat → Int32 := fun x => if x / 6 < N ∧ x % 6 < N then rb_fl (on x) else on x
def rb_CX (N : Nat) (on : Nat → Int32) (r c : Nat) : Nat → Int32 := fun x => if x / 6 < N ∧ x % 6 < N ∧ (x / 6 < r ∨ (x / 6 = r ∧ x % 6 < c)) then rb_fl (on x) else on x
theorem rb_CX_s {N r c : Nat} {on : Nat → Int32} (hN : N ≤ 6) (hr : r < N) (hc : c < N) : upd (rb_CX N on r c) (6 * r + c) (rb_fl (on (6 * r + c))) = rb_CX N on r (c + 1) := by
  funext x
  by_cases e : x = 6 * r + c
  · subst e
    rw [pk_us]
    unfold rb_CX
    rw [if_pos (by omega)]
  · rw [pk_un e]
    unfold rb_CX
    by_cases d : x / 6 < N ∧ x % 6 < N ∧ (x / 6 < r ∨ (x / 6 = r ∧ x % 6 < c))
    · rw [if_pos d, if_pos (by omega)]
    · rw [if_neg d, if_neg (by omega)]
theorem rb_CX_v {N r c : Nat} {on : Nat → Int32} (hN : N ≤ 6) (hr : r < N) (hc : c < N) : rb_CX N on r c (6 * r + c) = on (6 * r + c) := by
  unfold rb_CX
  rw [if_neg (by omega)]
theorem rb_CX_N {N r : Nat} {on : Nat → Int32} : rb_CX N on r N = rb_CX N on (r + 1) 0 := by
  funext x
  unfold rb_CX
  by_cases d : x / 6 < N ∧ x % 6 < N ∧ (x / 6 < r ∨ (x / 6 = r ∧ x % 6 < N))
  · rw [if_pos d, if_pos (by omega)]
  · rw [if_neg d, if_neg (by omega)]
theorem rb_CX_0 {N : Nat} {on : Nat → Int32} : rb_CX N on 0 0 = on := by
  funext x
  unfold rb_CX
  rw [if_neg (by omega)]
theorem rb_CX_e {N : Nat} {on : Nat → Int32} : rb_CX N on N 0 = rb_cp N on := by
  funext x
  unfold rb_CX rb_cp
  by_cases d : x / 6 < N ∧ x % 6 < N
  · rw [if_pos d, if_pos (by omega)]
  · rw [if_neg d, if_neg (by omega)]
theorem xb_complement {post : Int32 → SX → Prop} {N : Nat} {on w bm hm : Nat → Int32} (hN : N ≤ 6)
    (h : post (rb_s2 (rb_c1 (rb_cp N on)) N N) (nI N, rb_cp N on, w, bm, hm)) : wpX_complement post (nI N, on, w, bm, hm) := by
  have In : ∀ (J : Int32 → (Nat → Int32) → (Nat → Int32) → (Nat → Int32) → (Nat → Int32) → Prop) (r : Nat), r < N → J (nI (r + 1)) (rb_CX N on r N) w bm hm →
      ∀ (q c : Nat), c + q = N → wX_complement_12 post J (nI r) (nI N) (q + 1) (nI c) (rb_CX N on r c) w bm hm := by
    intro J r hr hJ q
    induction q with
    | zero =>
      intro c hc
      have : c = N := by omega
      subst this
      exact br_t (nI_le (Nat.le_refl _) (by omega)) (nm_r (nI_1 r) hJ)
    | succ q ih =>
      intro c hc
      have ihc := ih (c + 1) (by omega)
      rw [← rb_CX_s hN hr (by omega)] at ihc
      refine br_f (by rw [nI_leI (by omega) (by omega)]; omega) (nm_r (rb_ix r c) ⟨vp_in_nI (by omega) (by decide), ?_⟩)
      rw [nI_clamp (by omega), rb_CX_v hN hr (by omega), rb_vb0, rb_vb1]
      refine br_c (fun o => ⟨vp_in_nI (by omega) (by decide), nm_e (nm_r (nI_1 c) ?_)⟩) (fun o => ⟨vp_in_nI (by omega) (by decide), nm_e (nm_r (nI_1 c) ?_)⟩)
      · rw [show rb_fl (on (6 * r + c)) = 1 from if_pos o] at ihc
        exact ihc
      · rw [show rb_fl (on (6 * r + c)) = 0 from if_neg o] at ihc
        exact ihc
  have Out : ∀ (q r : Nat), r + q = N → wX_complement_2 post (nI N) (q + 1) (nI r) (rb_CX N on r 0) w bm hm := by
    intro q
    induction q with
    | zero =>
      intro r hr
      have : r = N := by omega
      subst this
      rw [rb_CX_e]
      exact br_t (nI_le (Nat.le_refl _) (by omega)) (xb_countCells hN h)
    | succ q ih =>
      intro r hr
      exact br_f (by rw [nI_leI (by omega) (by omega)]; omega) ⟨_, In _ r (by omega) (by rw [rb_CX_N]; exact ih (r + 1) (by omega)) N 0 (by omega)⟩
  have := Out N 0 (by omega)
  rw [rb_CX_0] at this
  exact ⟨_, this⟩
def rb_CY (N : Nat) (on : Nat → Int32) (i : Nat) : Nat → Int32 := fun x => if x < i ∧ x / 6 < N ∧ x % 6 < N then rb_fl (on x) else on x
theorem yb_complement {post : Int32 → SY → Prop} {N : Nat} {x y z any : Int32} {on w a : Nat → Int32} (hN : N ≤ 6) (hon : rb_OK N on)
    (h : post (rb_sum (rb_c1 (rb_cp N on)) 36) (nI N, x, y, z, any, rb_cp N on, w, a)) : wpY_complement post (nI N, x, y, z, any, on, w, a) := by
  have L : ∀ (q i : Nat), i + q = 36 → wY_complement_2 post (nI N) x y z any (q + 1) (nI i) (rb_CY N on i) w a := by
    intro q
    induction q with
    | zero =>
      intro i hi
      have : i = 36 := by omega
      subst this
      have e : rb_CY N on 36 = rb_cp N on := by
        funext x
        unfold rb_CY rb_cp
        by_cases d : x / 6 < N ∧ x % 6 < N
        · rw [if_pos d, if_pos (by omega)]
        · rw [if_neg d, if_neg (by omega)]
      rw [e]
      exact br_t (nI_le (a := 36) (b := 36) (Nat.le_refl _) (by decide)) (yb_cells h)
    | succ q ih =>
      intro i hi
      obtain ⟨r, c, hr, hc, rfl⟩ : ∃ r c, r < 6 ∧ c < 6 ∧ i = 6 * r + c := ⟨i / 6, i % 6, by omega, by omega, by omega⟩
      have ihc := ih (6 * r + c + 1) (by omega)
      have ev : rb_CY N on (6 * r + c) (6 * r + c) = on (6 * r + c) := by
        unfold rb_CY
        rw [if_neg (by omega)]
      have es : ∀ v : Int32, (r < N ∧ c < N → v = rb_fl (on (6 * r + c))) → (¬ (r < N ∧ c < N) → v = on (6 * r + c)) → upd (rb_CY N on (6 * r + c)) (6 * r + c) v = rb_CY N on (6 * r + c + 1) := by
        intro v h1 h2
        funext x
        by_cases e : x = 6 * r + c
        · subst e
          rw [pk_us]
          unfold rb_CY
          by_cases d : r < N ∧ c < N
          · rw [if_pos (by omega)]; exact h1 d
          · rw [if_neg (by omega)]; exact h2 d
        · rw [pk_un e]
          unfold rb_CY
          by_cases d : x < 6 * r + c ∧ x / 6 < N ∧ x % 6 < N
          · rw [if_pos d, if_pos (by omega)]
          · rw [if_neg d, if_neg (by omega)]
      refine br_f (nI_ge (a := 6 * r + c) (b := 36) (by omega) (by decide)) ?_
      by_cases d : r < N ∧ c < N
      · refine yb_noCell0 hN d.1 d.2 (br_t rfl ⟨vp_in_nI (by omega) (by decide), ?_⟩)
        rw [nI_clamp (by omega), ev, rb_vb0, rb_vb1]
        refine br_c (fun o => ⟨vp_in_nI (by omega) (by decide), nm_r (es 1 (fun _ => (if_pos o).symm) (fun n => absurd d n)) (nm_r (nI_1 _) ihc)⟩) (fun o => ⟨vp_in_nI (by omega) (by decide), nm_r (es 0 (fun _ => (if_neg o).symm) (fun n => absurd d n)) (nm_r (nI_1 _) ihc)⟩)
      · refine yb_noCell1 hN ?_ (br_f (by decide) ⟨vp_in_nI (by omega) (by decide), ?_⟩)
        · rintro ⟨r', c', hr', hc', e⟩
          have := (nI_eq (by omega) (by omega)).mp e
          omega
        · rw [nI_clamp (by omega), rb_vb0]
          exact nm_r (es 0 (fun n => absurd n d) (fun _ => (hon.2 r c hr hc (by omega)).symm)) (nm_r (nI_1 _) ihc)
  have e0 : rb_CY N on 0 = on := by
    funext x
    unfold rb_CY
    rw [if_neg (by omega)]
  have := L 36 0 rfl
  rw [e0] at this
  exact ⟨_, this⟩
theorem rb_OK_cp {N : Nat} {on : Nat → Int32} (h : rb_OK N on) : rb_OK N (rb_cp N on) := by
  refine ⟨fun x => ?_, fun r c hr hc ho => ?_⟩
  · unfold rb_cp rb_fl
    split
    · split
      · exact Or.inr rfl
      · exact Or.inl rfl
    · exact h.1 x
  · unfold rb_cp
    rw [if_neg (by omega)]
    exact h.2 r c hr hc ho
/-! a new object -/
def rb_on1 : Nat → Nat → Int32
  | 0 => fun _ => 0
  | i + 1 => upd (rb_on1 i) i 1
theorem xb_init64 {post : SX → Prop} {f : Int32} (h : post (f, (fun _ => 0), rb_on1 36, (fun _ => 0), (fun _ => 0))) : ∃ n, wX_init_64 post f n 0 (fun _ => 0) (fun _ => 0) (fun _ => 0) (fun _ => 0) := by
  have L : ∀ (q i : Nat), i + q = 36 → wX_init_64 post f (q + 1) (nI i) (fun _ => 0) (rb_on1 i) (fun _ => 0) (fun _ => 0) := by
    intro q
    induction q with
    | zero =>
      intro i hi
      have : i = 36 := by omega
      subst this
      exact br_t (nI_le (a := 36) (b := 36) (Nat.le_refl _) (by decide)) h
    | succ q ih =>
      intro i hi
      exact br_f (nI_ge (a := i) (b := 36) (by omega) (by decide)) ⟨vp_in_nI (by omega) (by decide), nm_r (e' := rb_on1 (i + 1)) (by rw [nI_clamp (by omega)]; rfl) (nm_r (nI_1 i) (ih (i + 1) (by omega)))⟩
  exact ⟨_, L 36 0 rfl⟩
theorem yb_init55 {post : SY → Prop} {f : Int32} (h : post (f, 0, 0, 0, 0, (fun _ => 0), rb_on1 36, (fun _ => 0))) : ∃ n, wY_init_55 post f 0 0 0 0 n 0 (fun _ => 0) (fun _ => 0) (fun _ => 0) := by
  have L : ∀ (q i : Nat), i + q = 36 → wY_init_55 post f 0 0 0 0 (q + 1) (nI i) (fun _ => 0) (rb_on1 i) (fun _ => 0) := by
    intro q
    induction q with
    | zero =>
      intro i hi
      have : i = 36 := by omega
      subst this
      exact br_t (nI_le (a := 36) (b := 36) (Nat.le_refl _) (by decide)) h
    | succ q ih =>
      intro i hi
      exact br_f (nI_ge (a := i) (b := 36) (by omega) (by decide)) ⟨vp_in_nI (by omega) (by decide), nm_r (e' := rb_on1 (i + 1)) (by rw [nI_clamp (by omega)]; rfl) (nm_r (nI_1 i) (ih (i + 1) (by omega)))⟩
  exact ⟨_, L 36 0 rfl⟩
theorem rb_size (k0 : Int32) : (1 ≤ k0 ∧ k0 ≤ 6 ∧ ∃ N, 0 < N ∧ N ≤ 6 ∧ k0 = nI N) ∨ (1 ≤ k0 ∧ ¬ k0 ≤ 6) ∨ ¬ 1 ≤ k0 := by
  by_cases h1 : 1 ≤ k0
  · by_cases h2 : k0 ≤ 6
    · left
      have h0 : ¬ k0 < 0 := Int32.not_lt.mpr (Int32.le_trans (by decide) h1)
      obtain ⟨j, hj, rfl⟩ := nI_of h0
      have g1 := (nI_leI (a := 1) (b := j) (by decide) hj).mp h1
      have g2 := (nI_leI (a := j) (b := 6) hj (by decide)).mp h2
      exact ⟨h1, h2, j, g1, g2, rfl⟩
    · exact Or.inr (Or.inl ⟨h1, h2⟩)
  · exact Or.inr (Or.inr h1)
/-! set, weight -/
theorem xb_set {post : Int32 → SX → Prop} {N r c : Nat} {v : Int32} {on w bm hm : Nat → Int32} (hN : N ≤ 6) (hr : r < N) (hc : c < N)
    (h : post (rb_c1 on (6 * r + c)) (nI N, upd on (6 * r + c) (if v = 0 then 0 else 1), w, bm, hm)) : wpX_set post (nI N, on, w, bm, hm) (nI (6 * r + c)) v := by
  unfold wpX_set
  dsimp only
  have go : ∀ z, z = rb_c1 on (6 * r + c) → wX_set_24 post (nI (6 * r + c)) v z (nI N) on w bm hm := by
    intro z ez
    unfold wX_set_24
    rw [nI_clamp (by omega), rb_vb0, rb_vb1, ez]
    refine br_c (fun e => ⟨vp_in_nI (by omega) (by decide), nm_e ?_⟩) (fun e => ⟨vp_in_nI (by omega) (by decide), nm_e ?_⟩)
    · rw [if_pos e] at h; exact h
    · rw [if_neg e] at h; exact h
  refine xb_cell1 hN hr hc (br_f (by decide) ⟨vp_in_nI (by omega) (by decide), ?_⟩)
  rw [nI_clamp (by omega)]
  exact br_c (fun o => go _ (if_pos o).symm) (fun o => go _ (if_neg o).symm)
theorem yb_set {post : Int32 → SY → Prop} {N r c : Nat} {v x y z any : Int32} {on w a : Nat → Int32} (hN : N ≤ 6) (hr : r < N) (hc : c < N)
    (h : post (rb_c1 on (6 * r + c)) (nI N, x, y, z, any, upd on (6 * r + c) (if v = 0 then 0 else 1), w, a)) : wpY_set post (nI N, x, y, z, any, on, w, a) (nI (6 * r + c)) v := by
  unfold wpY_set
  dsimp only
  have go : ∀ q, q = rb_c1 on (6 * r + c) → wY_set_24 post (nI (6 * r + c)) v q (nI N) x y z any on w a := by
    intro q ez
    unfold wY_set_24
    rw [nI_clamp (by omega), rb_vb0, rb_vb1, ez]
    refine br_c (fun e => ⟨vp_in_nI (by omega) (by decide), nm_e ?_⟩) (fun e => ⟨vp_in_nI (by omega) (by decide), nm_e ?_⟩)
    · rw [if_pos e] at h; exact h
    · rw [if_neg e] at h; exact h
  refine yb_noCell0 hN hr hc (br_t rfl ⟨vp_in_nI (by omega) (by decide), ?_⟩)
  rw [nI_clamp (by omega)]
  exact br_c (fun o => go _ (if_pos o).symm) (fun o => go _ (if_neg o).symm)
theorem rb_OK_set {N r c : Nat} {v : Int32} {on : Nat → Int32} (h : rb_OK N on) (hr : r < N) (hc : c < N) (hN : N ≤ 6) : rb_OK N (upd on (6 * r + c) (if v = 0 then 0 else 1)) := by
  refine ⟨fun x => ?_, fun i j hi hj ho => ?_⟩
  · by_cases e : x = 6 * r + c
    · rw [e, pk_us]
      split
      · exact Or.inl rfl
      · exact Or.inr rfl
    · rw [pk_un e]; exact h.1 x
  · rw [pk_un (by omega)]; exact h.2 i j hi hj ho
