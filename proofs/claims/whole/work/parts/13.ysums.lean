/-! N: the reference's sums, hits, signs -/
theorem yb_worth {post : Int32 → Prop} {N : Nat} {x y z any : Int32} {on w a : Nat → Int32} {p : List Nat} (hN : N ≤ 6) (hl : p.length = N) (hle : ∀ c, c ∈ p → c ≤ N) (hcol : ∀ i, i < N → a i = nI (p.getD i 0))
    (h : post (rb_wo N w 0 p)) : wpY_worth post (nI N, x, y, z, any, on, w, a) := by
  have L : ∀ (j i : Nat) (acc : Int32), i + j = N → acc * rb_wo N w i (p.drop i) = rb_wo N w 0 p → wY_worth_4 post (nI N) x y z any on w a (j + 1) acc (nI i) := by
    intro j
    induction j with
    | zero =>
      intro i acc hi ha
      rw [List.drop_of_length_le (by omega)] at ha
      have : acc = rb_wo N w 0 p := by rw [← ha]; exact (Int32.mul_one acc).symm
      rw [this]
      exact br_t ((nI_leI (by omega) (by omega)).mpr (by omega)) h
    | succ j ih =>
      intro i acc hi ha
      have hc : p.getD i 0 ≤ N := rb_getD_le hle
      rw [rb_drop (by omega), show rb_wo N w i (p.getD i 0 :: p.drop (i + 1)) = (if p.getD i 0 < N then w (6 * i + p.getD i 0) else 1) * rb_wo N w (i + 1) (p.drop (i + 1)) from rfl, ← Int32.mul_assoc] at ha
      refine br_f (by rw [nI_leI (by omega) (by omega)]; omega) ⟨vp_in_nI (by omega) (by decide), ?_⟩
      rw [nI_clamp (by omega), hcol i (by omega), nI_leI (by omega) (by omega)]
      refine br_c (fun q => nm_r (nI_1 i) (ih (i + 1) acc (by omega) ?_)) (fun q => ⟨vp_in_nI (by omega) (by decide), ?_⟩)
      · rw [if_neg (by omega), Int32.mul_one] at ha
        exact ha
      · rw [rb_ix, nI_clamp (by omega)]
        rw [if_pos (by omega)] at ha
        exact ⟨vp_in_nI (by omega) (by decide), nm_e (nm_r (nI_1 i) (ih (i + 1) _ (by omega) ha))⟩
  exact ⟨_, L N 0 1 (by omega) (by rw [Int32.one_mul]; rfl)⟩
theorem yb_sumL {post : Int32 → SY → Prop} {N k : Nat} {any : Int32} {on w : Nat → Int32} {B : Nat → Bool} (hN : N ≤ 6) (h0 : 0 < N) (hB : rb_HB2 any on B) (hk : k ≤ N) :
    ∀ (M : List (List Nat)) (n : Nat) (acc r x y z : Int32) (a : Nat → Int32), M.length < n → (∀ p, p ∈ M → ∀ c, c ∈ p → c ≤ N) → yb_At N k B any on w M r (nI N, x, y, z, any, on, w, a) →
      (∀ x y z a, post (acc + rb_ls (rb_wo N w 0) M) (nI N, x, y, z, any, on, w, a)) → wY_sum_24 post (nI k) n acc r (nI N) x y z any on w a := by
  intro M
  induction M with
  | nil =>
    intro n acc r x y z a hn hM hu hp
    obtain ⟨n, rfl⟩ : ∃ m, n = m + 1 := ⟨n - 1, by omega⟩
    have := hp x y z a
    rw [show rb_ls (rb_wo N w 0) [] = 0 from rfl, Int32.add_zero] at this
    exact br_t (yb_At_0 hu) this
  | cons p L ih =>
    intro n acc r x y z a hn hM hu hp
    obtain ⟨n, rfl⟩ : ∃ m, n = m + 1 := ⟨n - 1, by omega⟩
    obtain ⟨hl, hcol⟩ := yb_At_c hu
    refine br_f (yb_At_n hu) (yb_worth hN hl (hM p (List.mem_cons_self ..)) hcol (nm_e (yb_again hN h0 hB hk hu (fun r u hu' => ?_))))
    obtain ⟨x, y, z, a, rfl⟩ := yb_At_t hu'
    refine ih n _ r x y z a (by rw [List.length_cons] at hn; omega) (fun q hq => hM q (List.mem_cons_of_mem _ hq)) hu' (fun x y z a => ?_)
    have := hp x y z a
    rw [show rb_ls (rb_wo N w 0) (p :: L) = rb_wo N w 0 p + rb_ls (rb_wo N w 0) L from rfl, ← Int32.add_assoc] at this
    exact this
theorem yb_sum {post : Int32 → SY → Prop} {N k : Nat} {x y z any : Int32} {on w a : Nat → Int32} (hN : N ≤ 6) (h0 : 0 < N) (hk : k ≤ N)
    (hp : ∀ x y z any a, post (rb_CB N (rb_B on) (rb_wd N w) k N 0) (nI N, x, y, z, any, on, w, a)) : wpY_sum post (nI N, x, y, z, any, on, w, a) (nI k) := by
  unfold wpY_sum
  dsimp only
  refine yb_bad0 hN hk (br_t rfl (yb_begin (Or.inl rfl) (yb_first hN h0 (rb_HB20 on) hk (fun r u hu => ?_))))
  obtain ⟨x, y, z, a, rfl⟩ := yb_At_t hu
  refine ⟨_, yb_sumL hN h0 (rb_HB20 on) hk _ _ 0 r x y z a (Nat.lt_succ_self _) (fun p hq => (rb_PLm hq).2) hu (fun x y z a => ?_)⟩
  rw [rb_PLsum hN hk, Int32.zero_add]
  exact hp x y z 0 a
theorem yb_sum1 {post : Int32 → SY → Prop} {N : Nat} {v x y z any : Int32} {on w a : Nat → Int32} (hN : N ≤ 6) (hk : ¬ ∃ k, k ≤ N ∧ v = nI k)
    (hp : post (-1) (nI N, x, y, z, any, on, w, a)) : wpY_sum post (nI N, x, y, z, any, on, w, a) v := by
  unfold wpY_sum
  dsimp only
  exact yb_bad1 hN hk (br_f (by decide) hp)
/-! signs -/
theorem yb_sign {post : Int32 → Prop} {N : Nat} {x y z any : Int32} {on w a : Nat → Int32} {p : List Nat} (hN : N ≤ 6) (hl : p.length = N) (hle : ∀ c, c ∈ p → c ≤ N) (hcol : ∀ i, i < N → a i = nI (p.getD i 0))
    (h : post (rb_sg (rb_iv p))) : wpY_sign post (nI N, x, y, z, any, on, w, a) := by
  have In : ∀ (J : Int32 → Int32 → Prop) (i : Nat), i < N → ∀ (j s : Nat) (acc t : Int32), s + j = N → acc * rb_sg (rb_ct (p.getD i 0) (p.drop s)) = t → J t (nI (i + 1)) → wY_sign_16 post J (nI i) (nI N) x y z any on w a (j + 1) acc (nI s) := by
    intro J i hi j
    induction j with
    | zero =>
      intro s acc t hs ht hJ
      rw [List.drop_of_length_le (by omega)] at ht
      have : acc = t := by rw [← ht]; exact (Int32.mul_one acc).symm
      rw [this]
      exact br_t ((nI_leI (by omega) (by omega)).mpr (by omega)) (nm_r (nI_1 i) hJ)
    | succ j ih =>
      intro s acc t hs ht hJ
      have hc : p.getD i 0 ≤ N := rb_getD_le hle
      have hd : p.getD s 0 ≤ N := rb_getD_le hle
      rw [rb_drop (by omega), show rb_ct (p.getD i 0) (p.getD s 0 :: p.drop (s + 1)) = (if p.getD s 0 < p.getD i 0 then 1 else 0) + rb_ct (p.getD i 0) (p.drop (s + 1)) from rfl] at ht
      refine br_f (by rw [nI_leI (by omega) (by omega)]; omega) ⟨vp_in_nI (by omega) (by decide), vp_in_nI (by omega) (by decide), ?_⟩
      rw [nI_clamp (by omega), nI_clamp (by omega), hcol i hi, hcol s (by omega), nI_leI (by omega) (by omega)]
      refine br_c (fun q => nm_r (nI_1 s) (ih (s + 1) acc t (by omega) ?_ hJ)) (fun q => nm_e (nm_r (nI_1 s) (ih (s + 1) _ t (by omega) ?_ hJ)))
      · rw [if_neg (by omega), Nat.zero_add] at ht
        exact ht
      · rw [if_pos (by omega), Nat.add_comm, rb_sg_s] at ht
        rw [← ht]
        grind
  have Out : ∀ (j i : Nat) (acc : Int32), i + j = N → acc * rb_sg (rb_iv (p.drop i)) = rb_sg (rb_iv p) → wY_sign_4 post (nI N) x y z any on w a (j + 1) acc (nI i) := by
    intro j
    induction j with
    | zero =>
      intro i acc hi ha
      rw [List.drop_of_length_le (by omega)] at ha
      have : acc = rb_sg (rb_iv p) := by rw [← ha]; exact (Int32.mul_one acc).symm
      rw [this]
      exact br_t ((nI_leI (by omega) (by omega)).mpr (by omega)) h
    | succ j ih =>
      intro i acc hi ha
      rw [rb_drop (by omega), show rb_iv (p.getD i 0 :: p.drop (i + 1)) = rb_ct (p.getD i 0) (p.drop (i + 1)) + rb_iv (p.drop (i + 1)) from rfl, rb_sg_a, ← Int32.mul_assoc] at ha
      exact br_f (by rw [nI_leI (by omega) (by omega)]; omega) (nm_r (nI_1 i) ⟨_, In _ i (by omega) j (i + 1) acc _ (by omega) rfl (ih (i + 1) _ (by omega) ha)⟩)
  exact ⟨_, Out N 0 1 (by omega) (by rw [Int32.one_mul]; rfl)⟩
theorem yb_signedL {post : Int32 → SY → Prop} {N : Nat} {any : Int32} {on w : Nat → Int32} {B : Nat → Bool} (hN : N ≤ 6) (h0 : 0 < N) (hB : rb_HB2 any on B) :
    ∀ (M : List (List Nat)) (n : Nat) (acc r x y z : Int32) (a : Nat → Int32), M.length < n → (∀ p, p ∈ M → ∀ c, c ∈ p → c ≤ N) → yb_At N N B any on w M r (nI N, x, y, z, any, on, w, a) →
      (∀ x y z a, post (acc + rb_ls (fun p => rb_sg (rb_iv p) * rb_wo N w 0 p) M) (nI N, x, y, z, any, on, w, a)) → wY_signedSum_17 post n acc r (nI N) x y z any on w a := by
  intro M
  induction M with
  | nil =>
    intro n acc r x y z a hn hM hu hp
    obtain ⟨n, rfl⟩ : ∃ m, n = m + 1 := ⟨n - 1, by omega⟩
    have := hp x y z a
    rw [show rb_ls (fun p => rb_sg (rb_iv p) * rb_wo N w 0 p) [] = 0 from rfl, Int32.add_zero] at this
    exact br_t (yb_At_0 hu) this
  | cons p L ih =>
    intro n acc r x y z a hn hM hu hp
    obtain ⟨n, rfl⟩ : ∃ m, n = m + 1 := ⟨n - 1, by omega⟩
    obtain ⟨hl, hcol⟩ := yb_At_c hu
    refine br_f (yb_At_n hu) (yb_worth hN hl (hM p (List.mem_cons_self ..)) hcol (yb_sign hN hl (hM p (List.mem_cons_self ..)) hcol (nm_e (yb_again hN h0 hB (Nat.le_refl N) hu (fun r u hu' => ?_)))))
    obtain ⟨x, y, z, a, rfl⟩ := yb_At_t hu'
    refine ih n _ r x y z a (by rw [List.length_cons] at hn; omega) (fun q hq => hM q (List.mem_cons_of_mem _ hq)) hu' (fun x y z a => ?_)
    have := hp x y z a
    rw [show rb_ls (fun p => rb_sg (rb_iv p) * rb_wo N w 0 p) (p :: L) = rb_sg (rb_iv p) * rb_wo N w 0 p + rb_ls (fun p => rb_sg (rb_iv p) * rb_wo N w 0 p) L from rfl, ← Int32.add_assoc] at this
    exact this
theorem yb_signedSum {post : Int32 → SY → Prop} {N : Nat} {x y z any : Int32} {on w a : Nat → Int32} (hN : N ≤ 6) (h0 : 0 < N)
    (hp : ∀ x y z any a, post (rb_CB N (rb_B on) (rb_wg N w) N N 0) (nI N, x, y, z, any, on, w, a)) : wpY_signedSum post (nI N, x, y, z, any, on, w, a) := by
  unfold wpY_signedSum
  dsimp only
  refine yb_begin (Or.inl rfl) (yb_first hN h0 (rb_HB20 on) (Nat.le_refl N) (fun r u hu => ?_))
  obtain ⟨x, y, z, a, rfl⟩ := yb_At_t hu
  refine ⟨_, yb_signedL hN h0 (rb_HB20 on) _ _ 0 r x y z a (Nat.lt_succ_self _) (fun p hq => (rb_PLm hq).2) hu (fun x y z a => ?_)⟩
  rw [rb_PLsg hN, Int32.zero_add]
  exact hp x y z 0 a
/-! hits -/
def rb_h (on : Nat → Int32) : Nat → Nat → Nat := fun r c => if on (6 * r + c) = 0 then 0 else 1
theorem rb_h1 (on : Nat → Int32) (r c : Nat) : rb_h on r c ≤ 1 := by unfold rb_h; split <;> omega
theorem rb_hi_le {h : Nat → Nat → Nat} (hh : ∀ a b, h a b ≤ 1) : ∀ (s : List Nat) (r : Nat), rb_hi h r s ≤ s.length := by
  intro s
  induction s with
  | nil => intro r; exact Nat.le_refl _
  | cons c s ih =>
    intro r
    show h r c + rb_hi h (r + 1) s ≤ s.length + 1
    have := ih (r + 1)
    have := hh r c
    omega
theorem yb_hitsL {post : Int32 → SY → Prop} {N kk : Nat} {any : Int32} {on w : Nat → Int32} {B : Nat → Bool} (hN : N ≤ 6) (h0 : 0 < N) (hB : rb_HB2 any on B) (hk : kk ≤ N) :
    ∀ (M : List (List Nat)) (n : Nat) (acc r x y z : Int32) (a : Nat → Int32), M.length < n → (∀ p, p ∈ M → ∀ c, c ∈ p → c < N) → yb_At N N B any on w M r (nI N, x, y, z, any, on, w, a) →
      (∀ x y z a, post (acc + rb_ls (fun p => if rb_hi (rb_h on) 0 p = kk then 1 else 0) M) (nI N, x, y, z, any, on, w, a)) → wY_hits_27 post (nI kk) n acc r (nI N) x y z any on w a := by
  intro M
  induction M with
  | nil =>
    intro n acc r x y z a hn hM hu hp
    obtain ⟨n, rfl⟩ : ∃ m, n = m + 1 := ⟨n - 1, by omega⟩
    have := hp x y z a
    rw [show rb_ls (fun p => if rb_hi (rb_h on) 0 p = kk then 1 else 0) [] = 0 from rfl, Int32.add_zero] at this
    exact br_t (yb_At_0 hu) this
  | cons p L ih =>
    intro n acc r x y z a hn hM hu hp
    obtain ⟨n, rfl⟩ : ∃ m, n = m + 1 := ⟨n - 1, by omega⟩
    obtain ⟨hl, hcol⟩ := yb_At_c hu
    have hlt := hM p (List.mem_cons_self ..)
    have hg : ∀ i, i < N → p.getD i 0 < N := by
      intro i hi
      have hi' : i < p.length := by omega
      rw [List.getD_eq_getElem?_getD, List.getElem?_eq_getElem hi']
      exact hlt _ (List.getElem_mem hi')
    have go : ∀ acc' : Int32, acc' = acc + (if rb_hi (rb_h on) 0 p = kk then 1 else 0) → wY_hits_85 post (wY_hits_27 post (nI kk) n) (nI kk) acc' (nI N) x y z any on w a := by
      intro acc' ea
      unfold wY_hits_85
      refine yb_again hN h0 hB (Nat.le_refl N) hu (fun r u hu' => ?_)
      obtain ⟨x, y, z, a, rfl⟩ := yb_At_t hu'
      refine ih n acc' r x y z a (by rw [List.length_cons] at hn; omega) (fun q hq => hM q (List.mem_cons_of_mem _ hq)) hu' (fun x y z a => ?_)
      have := hp x y z a
      rw [show rb_ls (fun p => if rb_hi (rb_h on) 0 p = kk then 1 else 0) (p :: L) = (if rb_hi (rb_h on) 0 p = kk then 1 else 0) + rb_ls (fun p => if rb_hi (rb_h on) 0 p = kk then 1 else 0) L from rfl, ← Int32.add_assoc, ← ea] at this
      exact this
    have In : ∀ (j i c : Nat), i + j = N → c + rb_hi (rb_h on) i (p.drop i) = rb_hi (rb_h on) 0 p → wY_hits_37 post (wY_hits_27 post (nI kk) n) (nI kk) acc (nI N) x y z any on w a (j + 1) (nI c) (nI i) := by
      have hle := rb_hi_le (rb_h1 on) p 0
      intro j
      induction j with
      | zero =>
        intro i c hi hc
        rw [List.drop_of_length_le (by omega), show rb_hi (rb_h on) i [] = 0 from rfl, Nat.add_zero] at hc
        refine br_t ((nI_leI (by omega) (by omega)).mpr (by omega)) ?_
        rw [nI_eq (by omega) (by omega), hc]
        exact br_c (fun e => nm_e (go _ (by rw [if_pos e]))) (fun e => go _ (by rw [if_neg e, Int32.add_zero]))
      | succ j jh =>
        intro i c hi hc
        have hgi := hg i (by omega)
        rw [rb_drop (by omega), show rb_hi (rb_h on) i (p.getD i 0 :: p.drop (i + 1)) = rb_h on i (p.getD i 0) + rb_hi (rb_h on) (i + 1) (p.drop (i + 1)) from rfl] at hc
        refine br_f (by rw [nI_leI (by omega) (by omega)]; omega) ⟨vp_in_nI (by omega) (by decide), ?_⟩
        rw [nI_clamp (by omega), hcol i (by omega), rb_ix, nI_clamp (by omega)]
        refine ⟨vp_in_nI (by omega) (by decide), br_c (fun e => nm_r (nI_1 i) (jh (i + 1) c (by omega) ?_)) (fun e => nm_r (nI_1 c) (nm_r (nI_1 i) (jh (i + 1) (c + 1) (by omega) ?_)))⟩
        · rw [show rb_h on i (p.getD i 0) = 0 from if_pos e, Nat.zero_add] at hc
          exact hc
        · rw [show rb_h on i (p.getD i 0) = 1 from if_neg e, ← Nat.add_assoc] at hc
          exact hc
    exact br_f (yb_At_n hu) ⟨_, In N 0 0 (by omega) (by rw [Nat.zero_add]; rfl)⟩
theorem yb_hits {post : Int32 → SY → Prop} {N kk : Nat} {x y z any : Int32} {on w a : Nat → Int32} (hN : N ≤ 6) (h0 : 0 < N) (hk : kk ≤ N)
    (hp : ∀ x y z any a, post (rb_HB N (rb_h on) kk N 0 0) (nI N, x, y, z, any, on, w, a)) : wpY_hits post (nI N, x, y, z, any, on, w, a) (nI kk) := by
  unfold wpY_hits
  dsimp only
  refine yb_bad0 hN hk (br_t rfl (yb_begin (Or.inr rfl) (yb_first hN h0 (rb_HB21 on) (Nat.le_refl N) (fun r u hu => ?_))))
  obtain ⟨x, y, z, a, rfl⟩ := yb_At_t hu
  refine ⟨_, yb_hitsL hN h0 (rb_HB21 on) hk (rb_PL N N (fun _ => true)) _ 0 r x y z a (Nat.lt_succ_self _) (fun p hq => rb_vl_lt p 0 (rb_full hN N 0 0 p (by omega) (Nat.two_pow_pos N) hq)) hu (fun x y z a => ?_)⟩
  rw [rb_PLhit hN, Int32.zero_add]
  exact hp x y z 1 a
theorem yb_hits1 {post : Int32 → SY → Prop} {N : Nat} {v x y z any : Int32} {on w a : Nat → Int32} (hN : N ≤ 6) (hk : ¬ ∃ k, k ≤ N ∧ v = nI k)
    (hp : post (-1) (nI N, x, y, z, any, on, w, a)) : wpY_hits post (nI N, x, y, z, any, on, w, a) v := by
  unfold wpY_hits
  dsimp only
  exact yb_bad1 hN hk (br_f (by decide) hp)
