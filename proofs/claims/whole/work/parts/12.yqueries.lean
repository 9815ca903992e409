/-! M: the reference's queries -/
theorem yb_bad0 {post : Int32 → Prop} {N k : Nat} {x y z any : Int32} {on w a : Nat → Int32} (hN : N ≤ 6) (hk : k ≤ N) (h : post 0) : wpY_bad post (nI N, x, y, z, any, on, w, a) (nI k) :=
  br_f (nI_pos (by omega)) (br_t ((nI_leI (by omega) (by omega)).mpr hk) h)
theorem yb_bad1 {post : Int32 → Prop} {N : Nat} {v x y z any : Int32} {on w a : Nat → Int32} (hN : N ≤ 6) (hk : ¬ ∃ k, k ≤ N ∧ v = nI k) (h : post 1) : wpY_bad post (nI N, x, y, z, any, on, w, a) v := by
  refine br_c (fun _ => h) (fun h0 => br_f (fun h1 => hk ?_) h)
  obtain ⟨j, hj, rfl⟩ := nI_of h0
  exact ⟨j, (nI_leI hj (by omega)).mp h1, rfl⟩
theorem yb_begin {post : SY → Prop} {N : Nat} {x y z any f : Int32} {on w a : Nat → Int32} (hf : f = 0 ∨ f = 1) (h : post (nI N, 0, 0, 0, f, on, w, a)) : wpY_begin post (nI N, x, y, z, any, on, w, a) f := by
  rcases hf with rfl | rfl
  · exact ⟨by decide, by decide, h⟩
  · exact ⟨by decide, by decide, h⟩
theorem yb_At_t {N k : Nat} {B : Nat → Bool} {any : Int32} {on w : Nat → Int32} {M : List (List Nat)} {r : Int32} {u : SY} (h : yb_At N k B any on w M r u) : ∃ x y z a, u = (nI N, x, y, z, any, on, w, a) := by
  cases M with
  | nil => exact h.2
  | cons p L =>
    obtain ⟨_, st, a, rfl, _⟩ := h
    exact ⟨_, _, _, _, rfl⟩
theorem yb_At_0 {N k : Nat} {B : Nat → Bool} {any : Int32} {on w : Nat → Int32} {r : Int32} {u : SY} (h : yb_At N k B any on w [] r u) : r = 0 := h.1
theorem yb_At_1 {N k : Nat} {B : Nat → Bool} {any : Int32} {on w : Nat → Int32} {p : List Nat} {L : List (List Nat)} {r : Int32} {u : SY} (h : yb_At N k B any on w (p :: L) r u) : r = 1 := h.1
theorem yb_At_n {N k : Nat} {B : Nat → Bool} {any : Int32} {on w : Nat → Int32} {p : List Nat} {L : List (List Nat)} {r : Int32} {u : SY} (h : yb_At N k B any on w (p :: L) r u) : ¬ r = 0 := by
  rw [yb_At_1 h]; decide
theorem yb_At_c {N k : Nat} {B : Nat → Bool} {any : Int32} {on w a : Nat → Int32} {p : List Nat} {L : List (List Nat)} {r x y z : Int32} (h : yb_At N k B any on w (p :: L) r (nI N, x, y, z, any, on, w, a)) : p.length = N ∧ ∀ i, i < N → a i = nI (p.getD i 0) := by
  obtain ⟨_, st, a', e, h1, h2, h3, h4, h5⟩ := h
  simp only [Prod.mk.injEq, true_and] at e
  obtain ⟨_, _, _, rfl⟩ := e
  refine ⟨by rw [← h2, List.length_reverse, h1], fun i hi => ?_⟩
  rw [← h2]
  exact rb_AR_get st h5 i (by omega)
def rb_B (on : Nat → Int32) : Nat → Bool := fun x => decide (¬ on x = 0)
theorem rb_HB20 (on : Nat → Int32) : rb_HB2 0 on (rb_B on) := fun x _ => by
  unfold rb_B
  rw [decide_eq_true_eq]
  exact ⟨fun h _ => h, fun h => h rfl⟩
theorem rb_HB21 (on : Nat → Int32) : rb_HB2 1 on (fun _ => true) := fun x _ => ⟨fun _ h => absurd h (by decide), fun _ => rfl⟩
theorem yb_rooksL {post : Int32 → SY → Prop} {N k : Nat} {any : Int32} {on w : Nat → Int32} {B : Nat → Bool} (hN : N ≤ 6) (h0 : 0 < N) (hB : rb_HB2 any on B) (hk : k ≤ N) :
    ∀ (M : List (List Nat)) (n : Nat) (acc r x y z : Int32) (a : Nat → Int32), M.length < n → yb_At N k B any on w M r (nI N, x, y, z, any, on, w, a) →
      (∀ x y z a, post (acc + rb_ls (fun _ => 1) M) (nI N, x, y, z, any, on, w, a)) → wY_rooks_24 post (nI k) n acc r (nI N) x y z any on w a := by
  intro M
  induction M with
  | nil =>
    intro n acc r x y z a hn hu hp
    obtain ⟨n, rfl⟩ : ∃ m, n = m + 1 := ⟨n - 1, by omega⟩
    have := hp x y z a
    rw [show rb_ls (fun _ => 1) [] = 0 from rfl, Int32.add_zero] at this
    exact br_t (yb_At_0 hu) this
  | cons p L ih =>
    intro n acc r x y z a hn hu hp
    obtain ⟨n, rfl⟩ : ∃ m, n = m + 1 := ⟨n - 1, by omega⟩
    refine br_f (yb_At_n hu) (nm_e (yb_again hN h0 hB hk hu (fun r u hu' => ?_)))
    obtain ⟨x, y, z, a, rfl⟩ := yb_At_t hu'
    refine ih n (acc + 1) r x y z a (by rw [List.length_cons] at hn; omega) hu' (fun x y z a => ?_)
    have := hp x y z a
    rw [show rb_ls (fun _ => 1) (p :: L) = 1 + rb_ls (fun _ => 1) L from rfl, ← Int32.add_assoc] at this
    exact this
theorem yb_rooks {post : Int32 → SY → Prop} {N k : Nat} {x y z any : Int32} {on w a : Nat → Int32} (hN : N ≤ 6) (h0 : 0 < N) (hk : k ≤ N)
    (hp : ∀ x y z any a, post (nI (rb_PL N k (rb_B on)).length) (nI N, x, y, z, any, on, w, a)) : wpY_rooks post (nI N, x, y, z, any, on, w, a) (nI k) := by
  unfold wpY_rooks
  dsimp only
  refine yb_bad0 hN hk (br_t rfl (yb_begin (Or.inl rfl) (yb_first hN h0 (rb_HB20 on) hk (fun r u hu => ?_))))
  obtain ⟨x, y, z, a, rfl⟩ := yb_At_t hu
  refine ⟨_, yb_rooksL hN h0 (rb_HB20 on) hk _ _ 0 r x y z a (Nat.lt_succ_self _) hu (fun x y z a => ?_)⟩
  rw [rb_ls_len, Int32.zero_add]
  exact hp x y z 0 a
theorem yb_rooks1 {post : Int32 → SY → Prop} {N : Nat} {v x y z any : Int32} {on w a : Nat → Int32} (hN : N ≤ 6) (hk : ¬ ∃ k, k ≤ N ∧ v = nI k)
    (hp : post (-1) (nI N, x, y, z, any, on, w, a)) : wpY_rooks post (nI N, x, y, z, any, on, w, a) v := by
  unfold wpY_rooks
  dsimp only
  exact yb_bad1 hN hk (br_f (by decide) hp)
/-! through -/
theorem rb_div6 {r c : Nat} (hr : r < 6) (hc : c < 6) : nI (6 * r + c) / 6 = nI r := by
  show nI (6 * r + c) / nI 6 = _
  rw [pk_div (by omega) (by decide) (by decide)]
  exact congrArg nI (by omega)
theorem rb_rem6 {r c : Nat} (hr : r < 6) (hc : c < 6) : nI (6 * r + c) - nI (6 * r + c) / 6 * 6 = nI c := by
  show nI (6 * r + c) - nI (6 * r + c) / nI 6 * nI 6 = _
  rw [pk_rem (by omega) (by decide) (by decide)]
  exact congrArg nI (by omega)
theorem rb_60 : ¬ (6 : Int32) = 0 := by decide
theorem rb_20 : ¬ (2 : Int32) = 0 := by decide
theorem rb_getD_le {N i : Nat} {p : List Nat} (h : ∀ c, c ∈ p → c ≤ N) : p.getD i 0 ≤ N := by
  rw [List.getD_eq_getElem?_getD]
  cases e : p[i]? with
  | none => exact Nat.zero_le _
  | some c => exact h c (List.mem_of_getElem? e)
theorem yb_throughL {post : Int32 → SY → Prop} {N k r0 c0 : Nat} {any : Int32} {on w : Nat → Int32} {B : Nat → Bool} (hN : N ≤ 6) (h0 : 0 < N) (hB : rb_HB2 any on B) (hk : k ≤ N) (hr : r0 < N) (hc : c0 < N) :
    ∀ (M : List (List Nat)) (n : Nat) (acc r x y z : Int32) (a : Nat → Int32), M.length < n → (∀ p, p ∈ M → ∀ c, c ∈ p → c ≤ N) → yb_At N k B any on w M r (nI N, x, y, z, any, on, w, a) →
      (∀ x y z a, post (acc + rb_ls (fun p => if p.getD r0 0 = c0 then 1 else 0) M) (nI N, x, y, z, any, on, w, a)) → wY_through_33 post (nI (6 * r0 + c0)) (nI k) n acc r (nI N) x y z any on w a := by
  intro M
  induction M with
  | nil =>
    intro n acc r x y z a hn hM hu hp
    obtain ⟨n, rfl⟩ : ∃ m, n = m + 1 := ⟨n - 1, by omega⟩
    have := hp x y z a
    rw [show rb_ls (fun p => if p.getD r0 0 = c0 then 1 else 0) [] = 0 from rfl, Int32.add_zero] at this
    exact br_t (yb_At_0 hu) this
  | cons p L ih =>
    intro n acc r x y z a hn hM hu hp
    obtain ⟨n, rfl⟩ : ∃ m, n = m + 1 := ⟨n - 1, by omega⟩
    obtain ⟨hl, hcol⟩ := yb_At_c hu
    have hle : p.getD r0 0 ≤ N := rb_getD_le (hM p (List.mem_cons_self ..))
    refine br_f (yb_At_n hu) ⟨rb_60, ?_⟩
    rw [rb_div6 (by omega) (by omega)]
    refine ⟨vp_in_nI (by omega) (by decide), rb_60, ?_⟩
    have e2 := rb_rem6 (r := r0) (c := c0) (by omega) (by omega)
    rw [rb_div6 (by omega) (by omega)] at e2
    rw [e2, nI_clamp (by omega), hcol r0 hr, nI_eq (by omega) (by omega)]
    have go : ∀ acc' : Int32, acc' = acc + (if p.getD r0 0 = c0 then 1 else 0) → wY_through_57 post (wY_through_33 post (nI (6 * r0 + c0)) (nI k) n) (nI (6 * r0 + c0)) (nI k) acc' (nI N) x y z any on w a := by
      intro acc' ea
      unfold wY_through_57
      refine yb_again hN h0 hB hk hu (fun r u hu' => ?_)
      obtain ⟨x, y, z, a, rfl⟩ := yb_At_t hu'
      refine ih n acc' r x y z a (by rw [List.length_cons] at hn; omega) (fun q hq => hM q (List.mem_cons_of_mem _ hq)) hu' (fun x y z a => ?_)
      have := hp x y z a
      rw [show rb_ls (fun p => if p.getD r0 0 = c0 then 1 else 0) (p :: L) = (if p.getD r0 0 = c0 then 1 else 0) + rb_ls (fun p => if p.getD r0 0 = c0 then 1 else 0) L from rfl, ← Int32.add_assoc, ← ea] at this
      exact this
    exact br_c (fun e => nm_e (go _ (by rw [if_pos e]))) (fun e => go _ (by rw [if_neg e, Int32.add_zero]))
/-- cells -/
theorem yb_noCell0 {post : Int32 → Prop} {N r c : Nat} {x y z any : Int32} {on w a : Nat → Int32} (hN : N ≤ 6) (hr : r < N) (hc : c < N) (h : post 0) : wpY_noCell post (nI N, x, y, z, any, on, w, a) (nI (6 * r + c)) := by
  unfold wpY_noCell
  dsimp only
  have e2 := rb_rem6 (r := r) (c := c) (by omega) (by omega)
  rw [rb_div6 (by omega) (by omega)] at e2 ⊢
  rw [e2]
  exact br_f (nI_pos (by omega)) (br_f (nI_nlt (b := 6 * r + c) (a := 35) (by omega) (by decide)) ⟨rb_60, br_f (by rw [nI_leI (by omega) (by omega)]; omega) ⟨rb_60, br_t (nI_lt hc (by omega)) h⟩⟩)
theorem yb_noCell1 {post : Int32 → Prop} {N : Nat} {v x y z any : Int32} {on w a : Nat → Int32} (hN : N ≤ 6) (hv : ¬ ∃ r c, r < N ∧ c < N ∧ v = nI (6 * r + c)) (h : post 1) : wpY_noCell post (nI N, x, y, z, any, on, w, a) v := by
  unfold wpY_noCell
  dsimp only
  refine br_c (fun _ => h) (fun g0 => br_c (fun _ => h) (fun g1 => ⟨rb_60, ?_⟩))
  obtain ⟨j, hj, rfl⟩ := nI_of g0
  have hj36 : j < 36 := by
    rcases Nat.lt_or_ge j 36 with q | q
    · exact q
    · exact absurd (nI_lt (a := 35) (b := j) (by omega) hj) g1
  obtain ⟨r, c, hr, hc, rfl⟩ : ∃ r c, r < 6 ∧ c < 6 ∧ j = 6 * r + c := ⟨j / 6, j % 6, by omega, by omega, by omega⟩
  have e2 := rb_rem6 (r := r) (c := c) (by omega) (by omega)
  rw [rb_div6 (by omega) (by omega)] at e2 ⊢
  rw [e2, nI_leI (by omega) (by omega), nI_ltI (by omega) (by omega)]
  exact br_c (fun _ => h) (fun q1 => ⟨rb_60, br_f (fun q2 => hv ⟨r, c, by omega, q2, rfl⟩) h⟩)
def rb_thr (N : Nat) (B : Nat → Bool) (k x : Nat) : Int32 := rb_CB N B (rb_wf (x / 6) (x % 6)) k N 0
theorem yb_through {post : Int32 → SY → Prop} {N k r0 c0 : Nat} {x y z any : Int32} {on w a : Nat → Int32} (hN : N ≤ 6) (h0 : 0 < N) (hk : k ≤ N) (hr : r0 < N) (hc : c0 < N)
    (hp : ∀ x y z any a, post (rb_thr N (rb_B on) k (6 * r0 + c0)) (nI N, x, y, z, any, on, w, a)) : wpY_through post (nI N, x, y, z, any, on, w, a) (nI (6 * r0 + c0)) (nI k) := by
  unfold wpY_through
  dsimp only
  refine yb_noCell0 hN hr hc (br_t rfl (yb_bad0 hN hk (br_t rfl (yb_begin (Or.inl rfl) (yb_first hN h0 (rb_HB20 on) hk (fun r u hu => ?_))))))
  obtain ⟨x, y, z, a, rfl⟩ := yb_At_t hu
  refine ⟨_, yb_throughL hN h0 (rb_HB20 on) hk hr hc _ _ 0 r x y z a (Nat.lt_succ_self _) (fun p hq => (rb_PLm hq).2) hu (fun x y z a => ?_)⟩
  rw [rb_PLthr hN hk hr, Int32.zero_add]
  have := hp x y z 0 a
  unfold rb_thr at this
  rw [show (6 * r0 + c0) / 6 = r0 by omega, show (6 * r0 + c0) % 6 = c0 by omega] at this
  exact this
theorem yb_through1 {post : Int32 → SY → Prop} {N : Nat} {v v2 x y z any : Int32} {on w a : Nat → Int32} (hN : N ≤ 6) (hk : ¬ ((∃ r c, r < N ∧ c < N ∧ v = nI (6 * r + c)) ∧ ∃ k, k ≤ N ∧ v2 = nI k))
    (hp : post (-1) (nI N, x, y, z, any, on, w, a)) : wpY_through post (nI N, x, y, z, any, on, w, a) v v2 := by
  unfold wpY_through
  dsimp only
  by_cases h : ∃ r c, r < N ∧ c < N ∧ v = nI (6 * r + c)
  · obtain ⟨r, c, hr, hc, rfl⟩ := h
    exact yb_noCell0 hN hr hc (br_t rfl (yb_bad1 hN (fun q => hk ⟨⟨r, c, hr, hc, rfl⟩, q⟩) (br_f (by decide) hp)))
  · exact yb_noCell1 hN h (br_f (by decide) hp)
