/-! O: the reference's cells, most, lines, needed, column -/
def rb_c1 (on : Nat → Int32) (x : Nat) : Int32 := if on x = 0 then 0 else 1
theorem yb_cells {post : Int32 → Prop} {f x y z any : Int32} {on w a : Nat → Int32} (h : post (rb_sum (rb_c1 on) 36)) : wpY_cells post (f, x, y, z, any, on, w, a) := by
  have L : ∀ (j i : Nat), i + j = 36 → wY_cells_4 post f x y z any on w a (j + 1) (rb_sum (rb_c1 on) i) (nI i) := by
    intro j
    induction j with
    | zero =>
      intro i hi
      have : i = 36 := by omega
      subst this
      exact br_t (nI_le (a := 36) (b := 36) (Nat.le_refl _) (by decide)) h
    | succ j ih =>
      intro i hi
      refine br_f (nI_ge (a := i) (b := 36) (by omega) (by decide)) ⟨vp_in_nI (by omega) (by decide), ?_⟩
      rw [nI_clamp (by omega)]
      have e := rb_sum_s (rb_c1 on) i
      refine br_c (fun q => nm_r (nI_1 i) ?_) (fun q => nm_r (e' := rb_sum (rb_c1 on) (i + 1)) ?_ (nm_r (nI_1 i) (ih (i + 1) (by omega))))
      · rw [show rb_c1 on i = 0 from if_pos q, Int32.add_zero] at e
        rw [← e]
        exact ih (i + 1) (by omega)
      · rw [e, show rb_c1 on i = 1 from if_neg q]
  exact ⟨_, L 36 0 rfl⟩
/-- the greatest number of rooks -/
def rb_mostP (N : Nat) (B : Nat → Bool) (k : Nat) : Prop := k ≤ N ∧ rb_PL N k B ≠ [] ∧ ∀ j, k < j → j ≤ N → rb_PL N j B = []
theorem rb_cf_in {N c : Nat} {F : Nat → List (List Nat)} {s : List Nat} (hc : c ≤ N) (hs : s ∈ F c) : ∀ e, N - c < e → e ≤ N + 1 → s ∈ rb_cf N F e := by
  intro e
  induction e with
  | zero => intro h; omega
  | succ e ih =>
    intro h1 h2
    rw [rb_cf_s, List.mem_append]
    by_cases q : N - e = c
    · left; rw [q]; exact hs
    · right; exact ih (by omega) (by omega)
theorem rb_PL0 {N : Nat} {B : Nat → Bool} : rb_PL N 0 B ≠ [] := by
  have : ∀ d t, ∃ s, s ∈ rb_comp N 0 B d t 0 := by
    intro d
    induction d with
    | zero => intro t; exact ⟨[], List.mem_singleton.mpr rfl⟩
    | succ d ih =>
      intro t
      obtain ⟨s, hs⟩ := ih t
      refine ⟨N :: s, ?_⟩
      rw [rb_comp_s]
      refine rb_cf_in (c := N) (Nat.le_refl N) ?_ (N + 1) (by omega) (Nat.le_refl _)
      unfold rb_pi
      rw [if_pos (by unfold rb_ok; rw [if_neg (Nat.lt_irrefl N)]; simp), show rb_nx N t N = t from if_neg (Nat.lt_irrefl N), show rb_np N 0 N = 0 from if_neg (Nat.lt_irrefl N)]
      exact List.mem_map.mpr ⟨s, hs, rfl⟩
  obtain ⟨s, hs⟩ := this N 0
  intro e
  unfold rb_PL at e
  rw [e] at hs
  exact absurd hs List.not_mem_nil
theorem rb_most_ex (N : Nat) (B : Nat → Bool) : ∃ k, rb_mostP N B k := by
  have : ∀ m, m ≤ N → (∃ k, k ≤ m ∧ rb_PL N k B ≠ [] ∧ ∀ j, k < j → j ≤ m → rb_PL N j B = []) := by
    intro m
    induction m with
    | zero => intro _; exact ⟨0, Nat.le_refl _, rb_PL0, fun j h1 h2 => by omega⟩
    | succ m ih =>
      intro hm
      by_cases e : rb_PL N (m + 1) B = []
      · obtain ⟨k, h1, h2, h3⟩ := ih (by omega)
        refine ⟨k, by omega, h2, fun j j1 j2 => ?_⟩
        by_cases q : j = m + 1
        · rw [q]; exact e
        · exact h3 j j1 (by omega)
      · exact ⟨m + 1, Nat.le_refl _, e, fun j h1 h2 => by omega⟩
  exact this N (Nat.le_refl N)
theorem yb_most {post : Int32 → SY → Prop} {N K : Nat} {x y z any : Int32} {on w a : Nat → Int32} (hN : N ≤ 6) (h0 : 0 < N) (hK : rb_mostP N (rb_B on) K)
    (hp : ∀ x y z any a, post (nI K) (nI N, x, y, z, any, on, w, a)) : wpY_most post (nI N, x, y, z, any, on, w, a) := by
  obtain ⟨k1, k2, k3⟩ := hK
  have L : ∀ (j : Nat), K + j ≤ N → ∀ (x y z any : Int32) (a : Nat → Int32), wY_most_7 post (j + 2) (nI (K + j)) 0 (nI N) x y z any on w a := by
    intro j
    induction j with
    | zero =>
      intro hj x y z any a
      refine br_t rfl (yb_begin (Or.inl rfl) (yb_first (B := rb_B on) (k := K) hN h0 (rb_HB20 on) k1 (fun r u hu => ?_)))
      obtain ⟨x, y, z, a, rfl⟩ := yb_At_t hu
      cases e : rb_PL N K (rb_B on) with
      | nil => exact absurd e k2
      | cons p L =>
        rw [e] at hu
        have hr := yb_At_n hu
        exact br_f hr (br_f hr (hp x y z 0 a))
    | succ j ih =>
      intro hj x y z any a
      refine br_t rfl (yb_begin (Or.inl rfl) (yb_first (B := rb_B on) (k := K + (j + 1)) hN h0 (rb_HB20 on) hj (fun r u hu => ?_)))
      obtain ⟨x, y, z, a, rfl⟩ := yb_At_t hu
      rw [k3 (K + (j + 1)) (by omega) hj] at hu
      have hr := yb_At_0 hu
      subst hr
      exact br_t rfl (nm_r (pk_m1 (K + j)) (ih (by omega) x y z 0 a))
  have := L (N - K) (by omega) x y z any a
  rw [show K + (N - K) = N by omega] at this
  exact ⟨_, this⟩
/-! lines -/
theorem yb_covers {post : Int32 → Prop} {N S : Nat} {x y z any : Int32} {on w a : Nat → Int32} (hN : N ≤ 6) (hS : S < 2 ^ 31) (h1 : rb_cov N (rb_B on) S → post 1) (h0 : ¬ rb_cov N (rb_B on) S → post 0) :
    wpY_covers post (nI N, x, y, z, any, on, w, a) (nI S) := by
  have hb : ∀ q, rb_B on q = true ↔ ¬ on q = 0 := fun q => by unfold rb_B; rw [decide_eq_true_eq]
  have In : ∀ (J : Int32 → Prop) (r : Nat), r < N → ((∀ c, c < N → rb_B on (6 * r + c) = true → S.testBit r = true ∨ S.testBit (N + c) = true) → J (nI (r + 1))) →
      ∀ (j c : Nat), c + j = N → (∀ c', c' < c → rb_B on (6 * r + c') = true → S.testBit r = true ∨ S.testBit (N + c') = true) → wY_covers_12 post J (nI S) (nI r) (nI N) x y z any on w a (j + 1) (nI c) := by
    intro J r hr hJ j
    induction j with
    | zero =>
      intro c hc hd
      have : c = N := by omega
      subst this
      exact br_t (nI_le (Nat.le_refl _) (by omega)) (nm_r (nI_1 r) (hJ hd))
    | succ j ih =>
      intro c hc hd
      refine br_f (by rw [nI_leI (by omega) (by omega)]; omega) ?_
      rw [rb_ix, nI_clamp (by omega), nI_add, rb_shr1_0 hS (by omega), rb_shr1_0 hS (by omega)]
      have next : (rb_B on (6 * r + c) = true → S.testBit r = true ∨ S.testBit (N + c) = true) → wY_covers_12 post J (nI S) (nI r) (nI N) x y z any on w a (j + 1) (nI (c + 1)) := by
        intro hh
        refine ih (c + 1) (by omega) (fun c' hc' => ?_)
        by_cases q : c' = c
        · subst q; exact hh
        · exact hd c' (by omega)
      refine ⟨vp_in_nI (by omega) (by decide), br_c (fun e => nm_r (nI_1 c) (next (fun q => absurd e ((hb _).mp q)))) (fun e => br_c (fun t1 => br_c (fun t2 => h0 (fun hcv => ?_)) (fun t2 => nm_r (nI_1 c) (next (fun _ => Or.inr (eq_true_of_ne_false t2))))) (fun t1 => nm_r (nI_1 c) (next (fun _ => Or.inl (eq_true_of_ne_false t1)))))⟩
      rcases hcv r hr c (by omega) ((hb _).mpr e) with q | q
      · rw [t1] at q; exact absurd q (by decide)
      · rw [t2] at q; exact absurd q (by decide)
  have Out : ∀ (j r : Nat), r + j = N → (∀ r', r' < r → ∀ c, c < N → rb_B on (6 * r' + c) = true → S.testBit r' = true ∨ S.testBit (N + c) = true) → wY_covers_2 post (nI S) (nI N) x y z any on w a (j + 1) (nI r) := by
    intro j
    induction j with
    | zero =>
      intro r hr hd
      have : r = N := by omega
      subst this
      exact br_t (nI_le (Nat.le_refl _) (by omega)) (h1 hd)
    | succ j ih =>
      intro r hr hd
      refine br_f (by rw [nI_leI (by omega) (by omega)]; omega) ⟨_, In _ r (by omega) (fun hrow => ih (r + 1) (by omega) (fun r' hr' => ?_)) N 0 (by omega) (fun c' hc' => absurd hc' (Nat.not_lt_zero _))⟩
      by_cases q : r' = r
      · subst q; exact hrow
      · exact hd r' (by omega)
  exact ⟨_, Out N 0 (by omega) (fun r' hr' => absurd hr' (Nat.not_lt_zero _))⟩
theorem yb_lines {post : Int32 → Prop} {N : Nat} {x y z any : Int32} {on w a : Nat → Int32} (hN : N ≤ 6)
    (h : ∀ l, (∀ S, S < 2 ^ (N + N) → rb_cov N (rb_B on) S → l ≤ rb_cnt S (N + N)) → (l = N + N ∨ ∃ S, S < 2 ^ (N + N) ∧ rb_cov N (rb_B on) S ∧ rb_cnt S (N + N) = l) → post (nI l)) :
    wpY_lines post (nI N, x, y, z, any, on, w, a) := by
  have e2 : (2 : Int32) * nI N = nI (N + N) := by
    show nI 2 * nI N = _
    rw [pk_mul]
    exact congrArg nI (by omega)
  have hp : 2 ^ (N + N) ≤ 2 ^ 12 := Nat.pow_le_pow_right (by decide) (by omega)
  have In : ∀ (J : Int32 → Int32 → Prop) (l S : Nat), l ≤ N + N → S < 2 ^ (N + N) → (∀ l', l' ≤ l → (rb_cov N (rb_B on) S → l' ≤ rb_cnt S (N + N)) → (l' = l ∨ (rb_cov N (rb_B on) S ∧ rb_cnt S (N + N) = l')) → J (nI l') (nI (S + 1))) →
      ∀ (j b : Nat), b + j = N + N → wY_lines_26 post J (nI l) (nI S) (nI N) x y z any on w a (j + 1) (nI (rb_cnt S b)) (nI b) := by
    intro J l S hl hS hJ j
    induction j with
    | zero =>
      intro b hb
      have : b = N + N := by omega
      subst this
      have hc := rb_cnt_le S (N + N)
      unfold wY_lines_26
      rw [e2, nI_leI (by omega) (by omega), nI_leI (by omega) (by omega)]
      refine br_t (Nat.le_refl _) (br_c (fun q => nm_r (nI_1 S) (hJ l (Nat.le_refl l) (fun _ => q) (Or.inl rfl))) (fun q => yb_covers hN (by omega) (fun hcv => br_f (by decide) (nm_r (nI_1 S) (hJ _ (by omega) (fun _ => Nat.le_refl _) (Or.inr ⟨hcv, rfl⟩)))) (fun hcv => br_t rfl (nm_r (nI_1 S) (hJ l (Nat.le_refl l) (fun q => absurd q hcv) (Or.inl rfl))))))
    | succ j ih =>
      intro b hb
      unfold wY_lines_26
      rw [e2, nI_leI (by omega) (by omega), rb_shr1 (by omega) (by omega)]
      exact br_f (by omega) (nm_r (nI_add _ _) (nm_r (nI_1 b) (ih (b + 1) (by omega))))
  have Out : ∀ (j S l : Nat), S + j = 2 ^ (N + N) → l ≤ N + N → (∀ S', S' < S → rb_cov N (rb_B on) S' → l ≤ rb_cnt S' (N + N)) → (l = N + N ∨ ∃ S', S' < 2 ^ (N + N) ∧ rb_cov N (rb_B on) S' ∧ rb_cnt S' (N + N) = l) → wY_lines_9 post (nI N) x y z any on w a (j + 1) (nI l) (nI S) := by
    intro j
    induction j with
    | zero =>
      intro S l hS hl h1 h2
      unfold wY_lines_9
      rw [e2, rb_1shl (N + N) (by omega), nI_leI (by omega) (by omega)]
      have : S = 2 ^ (N + N) := by omega
      subst this
      exact br_t (Nat.le_refl _) (h l h1 h2)
    | succ j ih =>
      intro S l hS hl h1 h2
      unfold wY_lines_9
      rw [e2, rb_1shl (N + N) (by omega), nI_leI (by omega) (by omega)]
      refine br_f (by omega) ⟨_, In _ l S hl (by omega) (fun l' hl' q1 q2 => ih (S + 1) l' (by omega) (by omega) (fun S' hS' hcv => ?_) ?_) (N + N) 0 (by omega)⟩
      · by_cases q : S' = S
        · subst q; exact q1 hcv
        · have := h1 S' (by omega) hcv; omega
      · rcases q2 with q | ⟨q, q'⟩
        · rw [q]; exact h2
        · exact Or.inr ⟨S, by omega, q, q'⟩
  have := Out (2 ^ (N + N)) 0 (N + N) (by omega) (Nat.le_refl _) (fun S' h' => absurd h' (Nat.not_lt_zero _)) (Or.inl rfl)
  exact nm_r e2 ⟨_, this⟩
/-! needed -/
def rb_nd (N : Nat) (on : Nat → Int32) (K x : Nat) : Int32 := if on x = 0 then 0 else if rb_thr N (rb_B on) K x = nI (rb_PL N K (rb_B on)).length then 1 else 0
theorem yb_needed {post : Int32 → SY → Prop} {N K : Nat} {x y z any : Int32} {on w a : Nat → Int32} (hN : N ≤ 6) (h0 : 0 < N) (hK : rb_mostP N (rb_B on) K) (hoff : ∀ r c, r < 6 → c < 6 → (N ≤ r ∨ N ≤ c) → on (6 * r + c) = 0)
    (hp : ∀ x y z any a, post (rb_sum (rb_nd N on K) 36) (nI N, x, y, z, any, on, w, a)) : wpY_needed post (nI N, x, y, z, any, on, w, a) := by
  unfold wpY_needed
  dsimp only
  refine yb_most hN h0 hK (fun x y z any a => yb_rooks hN h0 hK.1 (fun x y z any a => ?_))
  have L : ∀ (j i : Nat), i + j = 36 → ∀ (x y z any : Int32) (a : Nat → Int32), wY_needed_16 post (nI K) (nI (rb_PL N K (rb_B on)).length) (j + 1) (rb_sum (rb_nd N on K) i) (nI i) (nI N) x y z any on w a := by
    intro j
    induction j with
    | zero =>
      intro i hi x y z any a
      have : i = 36 := by omega
      subst this
      exact br_t (nI_le (a := 36) (b := 36) (Nat.le_refl _) (by decide)) (hp x y z any a)
    | succ j ih =>
      intro i hi x y z any a
      have e := rb_sum_s (rb_nd N on K) i
      refine br_f (nI_ge (a := i) (b := 36) (by omega) (by decide)) ⟨vp_in_nI (by omega) (by decide), ?_⟩
      rw [nI_clamp (by omega)]
      refine br_c (fun q => nm_r (nI_1 i) ?_) (fun q => ?_)
      · rw [show rb_nd N on K i = 0 from if_pos q, Int32.add_zero] at e
        rw [← e]
        exact ih (i + 1) (by omega) x y z any a
      · obtain ⟨r, c, hr, hc, rfl⟩ : ∃ r c, r < 6 ∧ c < 6 ∧ i = 6 * r + c := ⟨i / 6, i % 6, by omega, by omega, by omega⟩
        have hrN : r < N := by
          rcases Nat.lt_or_ge r N with h | h
          · exact h
          · exact absurd (hoff r c hr hc (Or.inl h)) q
        have hcN : c < N := by
          rcases Nat.lt_or_ge c N with h | h
          · exact h
          · exact absurd (hoff r c hr hc (Or.inr h)) q
        have e3 : rb_nd N on K (6 * r + c) = if rb_thr N (rb_B on) K (6 * r + c) = nI (rb_PL N K (rb_B on)).length then 1 else 0 := if_neg q
        refine yb_through hN h0 hK.1 hrN hcN (fun x y z any a => br_c (fun t => nm_r (e' := rb_sum (rb_nd N on K) (6 * r + c + 1)) ?_ (nm_r (nI_1 _) (ih (6 * r + c + 1) (by omega) x y z any a))) (fun t => nm_r (nI_1 _) ?_))
        · rw [e, e3, if_pos t]
        · rw [e3, if_neg t, Int32.add_zero] at e
          rw [← e]
          exact ih (6 * r + c + 1) (by omega) x y z any a
  exact ⟨_, L 36 0 rfl x y z any a⟩
/-! column -/
theorem yb_columnL {post : Int32 → SY → Prop} {N k i r0 : Nat} {on w : Nat → Int32} {B : Nat → Bool} {any : Int32} (hN : N ≤ 6) (h0 : 0 < N) (hB : rb_HB2 any on B) (hk : k ≤ N) (hi : i < 2 ^ 31) (hr : r0 < N)
    (h1 : ∀ p, (rb_PL N k B)[i]? = some p → ∀ x y z a, post (nI (p.getD r0 0)) (nI N, x, y, z, any, on, w, a)) (h2 : (rb_PL N k B)[i]? = none → ∀ x y z a, post (-4) (nI N, x, y, z, any, on, w, a)) :
    ∀ (M : List (List Nat)) (n m : Nat) (r x y z : Int32) (a : Nat → Int32), M.length + 1 < n → m ≤ i → (rb_PL N k B).drop m = M → yb_At N k B any on w M r (nI N, x, y, z, any, on, w, a) →
      wY_column_41 post (nI k) (nI i) (nI r0) n r (nI m) (nI N) x y z any on w a := by
  intro M
  induction M with
  | nil =>
    intro n m r x y z a hn hm hM hu
    obtain ⟨n, rfl⟩ : ∃ m, n = m + 1 := ⟨n - 1, by omega⟩
    have hr0 := yb_At_0 hu
    have hlen : (rb_PL N k B).length ≤ m := List.drop_eq_nil_iff.mp hM
    have hnone : (rb_PL N k B)[i]? = none := List.getElem?_eq_none (by omega)
    have e66 : wY_column_66 post (nI r0) r (nI N) x y z any on w a := br_t hr0 (h2 hnone x y z a)
    exact br_c (fun _ => e66) (fun _ => br_t hr0 e66)
  | cons p L ih =>
    intro n m r x y z a hn hm hM hu
    obtain ⟨n, rfl⟩ : ∃ m, n = m + 1 := ⟨n - 1, by omega⟩
    obtain ⟨hl, hcol⟩ := yb_At_c hu
    have hm1 : (rb_PL N k B)[m]? = some p := by
      have := List.getElem?_drop (xs := rb_PL N k B) (i := m) (j := 0)
      rw [hM] at this
      rw [Nat.add_zero] at this
      exact this.symm
    unfold wY_column_41
    rw [nI_leI hi (by omega)]
    by_cases q : i ≤ m
    · have : m = i := by omega
      subst this
      refine br_t q (br_f (yb_At_n hu) ⟨vp_in_nI (by omega) (by decide), ?_⟩)
      rw [nI_clamp (by omega), hcol r0 hr]
      exact h1 p hm1 x y z a
    · refine br_f q (br_f (yb_At_n hu) (yb_again hN h0 hB hk hu (fun r u hu' => ?_)))
      obtain ⟨x, y, z, a, rfl⟩ := yb_At_t hu'
      refine nm_r (nI_1 m) (ih n (m + 1) r x y z a (by rw [List.length_cons] at hn; omega) (by omega) ?_ hu')
      rw [← List.drop_drop, hM]
      rfl
theorem yb_noRow0 {post : Int32 → Prop} {N k : Nat} {x y z any : Int32} {on w a : Nat → Int32} (hN : N ≤ 6) (hk : k < N) (h : post 0) : wpY_noRow post (nI N, x, y, z, any, on, w, a) (nI k) :=
  br_f (nI_pos (by omega)) (br_t ((nI_ltI (by omega) (by omega)).mpr hk) h)
theorem yb_noRow1 {post : Int32 → Prop} {N : Nat} {v x y z any : Int32} {on w a : Nat → Int32} (hN : N ≤ 6) (hk : ¬ ∃ k, k < N ∧ v = nI k) (h : post 1) : wpY_noRow post (nI N, x, y, z, any, on, w, a) v := by
  refine br_c (fun _ => h) (fun h0 => br_f (fun h1 => hk ?_) h)
  obtain ⟨j, hj, rfl⟩ := nI_of h0
  exact ⟨j, (nI_ltI hj (by omega)).mp h1, rfl⟩
theorem yb_column {post : Int32 → SY → Prop} {N k i r0 : Nat} {x y z any : Int32} {on w a : Nat → Int32} (hN : N ≤ 6) (h0 : 0 < N) (hk : k ≤ N) (hr : r0 < N) (hi : i < 2 ^ 31)
    (h1 : ∀ p, (rb_PL N k (rb_B on))[i]? = some p → ∀ x y z any a, post (nI (p.getD r0 0)) (nI N, x, y, z, any, on, w, a)) (h2 : (rb_PL N k (rb_B on))[i]? = none → ∀ x y z any a, post (-4) (nI N, x, y, z, any, on, w, a)) :
    wpY_column post (nI N, x, y, z, any, on, w, a) (nI k) (nI i) (nI r0) := by
  unfold wpY_column
  dsimp only
  refine yb_bad0 hN hk (br_t rfl (yb_noRow0 hN hr (br_t rfl (br_t (nI_pos' hi) (yb_begin (Or.inl rfl) (yb_first hN h0 (rb_HB20 on) hk (fun r u hu => ?_)))))))
  obtain ⟨x, y, z, a, rfl⟩ := yb_At_t hu
  exact ⟨_, yb_columnL hN h0 (rb_HB20 on) hk hi hr (fun p hp x y z a => h1 p hp x y z 0 a) (fun hp x y z a => h2 hp x y z 0 a) (rb_PL N k (rb_B on)) ((rb_PL N k (rb_B on)).length + 2) 0 r x y z a (by omega) (Nat.zero_le i) rfl hu⟩
theorem yb_columnN {post : Int32 → SY → Prop} {N k r0 : Nat} {v x y z any : Int32} {on w a : Nat → Int32} (hN : N ≤ 6) (hk : k ≤ N) (hr : r0 < N) (hv : v < 0)
    (h : post (-4) (nI N, x, y, z, any, on, w, a)) : wpY_column post (nI N, x, y, z, any, on, w, a) (nI k) v (nI r0) := by
  unfold wpY_column
  dsimp only
  exact yb_bad0 hN hk (br_t rfl (yb_noRow0 hN hr (br_t rfl (br_f (Int32.not_le.mpr hv) h))))
theorem yb_column1 {post : Int32 → SY → Prop} {N : Nat} {v v2 v3 x y z any : Int32} {on w a : Nat → Int32} (hN : N ≤ 6) (hk : ¬ ((∃ k, k ≤ N ∧ v = nI k) ∧ ∃ k, k < N ∧ v3 = nI k))
    (h : post (-1) (nI N, x, y, z, any, on, w, a)) : wpY_column post (nI N, x, y, z, any, on, w, a) v v2 v3 := by
  unfold wpY_column
  dsimp only
  by_cases q : ∃ k, k ≤ N ∧ v = nI k
  · obtain ⟨k, hk1, rfl⟩ := q
    exact yb_bad0 hN hk1 (br_t rfl (yb_noRow1 hN (fun t => hk ⟨⟨k, hk1, rfl⟩, t⟩) (br_f (by decide) h)))
  · exact yb_bad1 hN q (br_f (by decide) h)
