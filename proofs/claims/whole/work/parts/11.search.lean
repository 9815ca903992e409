/-! L: the reference's search, walked -/
theorem rb_ix (r c : Nat) : 6 * nI r + nI c = nI (6 * r + c) := by
  show nI 6 * nI r + nI c = _
  rw [pk_mul, nI_add]
theorem yb_put {post : SY → Prop} {N c : Nat} {any : Int32} {on w a : Nat → Int32} {st : List Nat} (hN : N ≤ 6) (hl : st.length < N) (hc : c ≤ N) (hv : rb_VS N st) (hb : c < N → (rb_tk N st).testBit c = false)
    (h : post (nI N, nI (st.length + 1), nI (rb_pl N (c :: st)), nI (rb_tk N (c :: st)), any, on, w, upd a st.length (nI c))) :
    wpY_put post (nI N, nI st.length, nI (rb_pl N st), nI (rb_tk N st), any, on, w, a) (nI c) := by
  unfold wpY_put
  dsimp only
  have h6 := rb_p6 hN
  obtain ⟨v1, v2, v3⟩ := rb_VS_f hN st hv
  refine ⟨vp_in_nI (by omega) (by decide), nm_r (e' := upd a st.length (nI c)) (by rw [nI_clamp (by omega)]) ?_⟩
  by_cases hcN : c < N
  · have e1 : rb_pl N (c :: st) = rb_pl N st + 1 := if_pos hcN
    have e2 : rb_tk N (c :: st) = rb_tk N st + 2 ^ c := if_pos hcN
    rw [e1, e2] at h
    refine br_f (by rw [nI_leI (by omega) (by omega)]; omega) (nm_r (nI_1 _) (nm_r ?_ (nm_r (nI_1 _) h)))
    rw [rb_1shl c (by omega), rb_or, rb_orb _ (by omega) c (by omega) (hb hcN)]
  · have e1 : rb_pl N (c :: st) = rb_pl N st := if_neg hcN
    have e2 : rb_tk N (c :: st) = rb_tk N st := if_neg hcN
    rw [e1, e2] at h
    exact br_t ((nI_leI (by omega) (by omega)).mpr (by omega)) (nm_r (nI_1 _) h)
theorem yb_back {post : Int32 → SY → Prop} {N c : Nat} {any : Int32} {on w a : Nat → Int32} {st : List Nat} (hN : N ≤ 6) (hl : st.length < N) (hv : rb_VS N (c :: st)) (ha : rb_AR a (c :: st))
    (h : post (nI c) (nI N, nI st.length, nI (rb_pl N st), nI (rb_tk N st), any, on, w, a)) :
    wpY_back post (nI N, nI (st.length + 1), nI (rb_pl N (c :: st)), nI (rb_tk N (c :: st)), any, on, w, a) := by
  unfold wpY_back
  dsimp only
  have h6 := rb_p6 hN
  obtain ⟨q1, q2, q3⟩ := hv
  obtain ⟨v1, v2, v3⟩ := rb_VS_f hN st q3
  refine nm_r (nI_pred _) ⟨vp_in_nI (by omega) (by decide), nm_r (e' := nI c) (by rw [nI_clamp (by omega)]; exact ha.1) ?_⟩
  by_cases hcN : c < N
  · have e1 : rb_pl N (c :: st) = rb_pl N st + 1 := if_pos hcN
    have e2 : rb_tk N (c :: st) = rb_tk N st + 2 ^ c := if_pos hcN
    rw [e1, e2]
    refine br_f (by rw [nI_leI (by omega) (by omega)]; omega) (nm_r (nI_pred _) (nm_r ?_ h))
    rw [rb_1shl c (by omega), rb_clr _ (by omega) c (by omega) (q2 hcN)]
  · have e1 : rb_pl N (c :: st) = rb_pl N st := if_neg hcN
    have e2 : rb_tk N (c :: st) = rb_tk N st := if_neg hcN
    rw [e1, e2]
    exact br_t ((nI_leI (by omega) (by omega)).mpr (by omega)) h
/-- what the board allows: anywhere, or on the board -/
def rb_HB2 (any : Int32) (on : Nat → Int32) (B : Nat → Bool) : Prop := ∀ x, x < 36 → (B x = true ↔ (any = 0 → ¬ on x = 0))
theorem yb_fits {post : Int32 → Prop} {N c : Nat} {any : Int32} {on w a : Nat → Int32} {B : Nat → Bool} {st : List Nat} (hN : N ≤ 6) (hB : rb_HB2 any on B) (hl : st.length < N) (hc : c < N) (hv : rb_VS N st)
    (h1 : (rb_tk N st).testBit c = false → B (6 * st.length + c) = true → post 1) (h0 : ((rb_tk N st).testBit c = false → B (6 * st.length + c) = false) → post 0) :
    wpY_fits post (nI N, nI st.length, nI (rb_pl N st), nI (rb_tk N st), any, on, w, a) (nI c) := by
  unfold wpY_fits
  dsimp only
  have h6 := rb_p6 hN
  obtain ⟨v1, v2, v3⟩ := rb_VS_f hN st hv
  have hx : 6 * st.length + c < 36 := by omega
  have hB' := hB _ hx
  rw [rb_shr1_0 (by omega) (by omega), rb_ix, nI_clamp (by omega)]
  refine br_c (fun t => br_c (fun z => ⟨vp_in_nI hx (by decide), br_c (fun o => h0 (fun _ => ?_)) (fun o => h1 t (hB'.mpr (fun _ => o)))⟩) (fun z => h1 t (hB'.mpr (fun q => absurd q z)))) (fun t => h0 (fun q => absurd q t))
  cases e : B (6 * st.length + c)
  · rfl
  · exact absurd o (hB'.mp e z)
theorem rb_ok_lt {N k c : Nat} {B : Nat → Bool} {st : List Nat} (hl : st.length < N) (hc : c < N) : rb_ok N k B (N - st.length - 1) (rb_tk N st) (rb_pl N st) c = (decide (rb_pl N st < k) && (!(rb_tk N st).testBit c && B (6 * st.length + c))) := by
  unfold rb_ok
  rw [if_pos hc, show N - (N - st.length - 1 + 1) = st.length by omega]
theorem rb_ok_N {N k : Nat} {B : Nat → Bool} {st : List Nat} : rb_ok N k B (N - st.length - 1) (rb_tk N st) (rb_pl N st) N = decide (k ≤ rb_pl N st + (N - st.length - 1)) := if_neg (Nat.lt_irrefl N)
theorem yb_go39 {post : Int32 → SY → Prop} {N k f : Nat} {any : Int32} {on w a : Nat → Int32} {B : Nat → Bool} {st : List Nat} (hN : N ≤ 6) (hl : st.length < N) (hv : rb_VS N st) (hf : f ≤ N + 1) (hk : k ≤ N)
    (hs : f ≤ N → rb_rm N k B st f = rb_rm N k B st N)
    (h1 : ∀ c, f ≤ c → c ≤ N → rb_VS N (c :: st) → rb_rm N k B st f ++ rb_up N k B st = rb_all N k B (c :: st) ++ rb_up N k B (c :: st) → post 1 (nI N, nI (st.length + 1), nI (rb_pl N (c :: st)), nI (rb_tk N (c :: st)), any, on, w, upd a st.length (nI c)))
    (h0 : rb_rm N k B st f = [] → post 0 (nI N, nI st.length, nI (rb_pl N st), nI (rb_tk N st), any, on, w, a)) :
    wY_goOn_39 post (nI f) (nI k) (nI N) (nI st.length) (nI (rb_pl N st)) (nI (rb_tk N st)) any on w a := by
  unfold wY_goOn_39
  obtain ⟨v1, v2, v3⟩ := rb_VS_f hN st hv
  by_cases hfN : N < f
  · exact br_t (nI_lt hfN (by omega)) (h0 (rb_rm_end hfN))
  · have es := hs (by omega)
    refine br_f (by rw [nI_ltI (by omega) (by omega)]; omega) ?_
    have e : nI (rb_pl N st) + nI N - nI st.length - 1 = nI (rb_pl N st + (N - st.length - 1)) := by
      rw [nI_add, pk_sub (by omega)]
      show _ - nI 1 = _
      rw [pk_sub (by omega)]
      exact congrArg nI (by omega)
    rw [e, nI_leI (by omega) (by omega)]
    refine br_c (fun q => ?_) (fun q => ?_)
    · have hv' : rb_VS N (N :: st) := ⟨Nat.le_refl N, fun z => absurd z (Nat.lt_irrefl N), hv⟩
      refine yb_put hN hl (Nat.le_refl N) hv (fun z => absurd z (Nat.lt_irrefl N)) (h1 N (by omega) (Nat.le_refl N) hv' ?_)
      rw [es]
      exact rb_rm_take (Nat.le_refl N) (by rw [rb_ok_N, decide_eq_true q])
    · refine h0 ?_
      rw [es, rb_rm_skip (Nat.le_refl N) (by rw [rb_ok_N, decide_eq_false q]), rb_rm_end (by omega)]
theorem yb_go2 {post : Int32 → SY → Prop} {N k f : Nat} {any : Int32} {on w a : Nat → Int32} {B : Nat → Bool} {st : List Nat} (hN : N ≤ 6) (hB : rb_HB2 any on B) (hl : st.length < N) (hv : rb_VS N st) (hf : f ≤ N + 1) (hk : k ≤ N)
    (h1 : ∀ c, f ≤ c → c ≤ N → rb_VS N (c :: st) → rb_rm N k B st f ++ rb_up N k B st = rb_all N k B (c :: st) ++ rb_up N k B (c :: st) → post 1 (nI N, nI (st.length + 1), nI (rb_pl N (c :: st)), nI (rb_tk N (c :: st)), any, on, w, upd a st.length (nI c)))
    (h0 : rb_rm N k B st f = [] → post 0 (nI N, nI st.length, nI (rb_pl N st), nI (rb_tk N st), any, on, w, a)) :
    ∀ (j d : Nat), f ≤ d → d ≤ N + 1 → N ≤ d + j → (f ≤ N → d ≤ N ∧ rb_rm N k B st f = rb_rm N k B st d) → wY_goOn_2 post (nI f) (nI k) (nI N) (nI st.length) (nI (rb_pl N st)) (nI (rb_tk N st)) any on w a (j + 1) (nI d) := by
  obtain ⟨v1, v2, v3⟩ := rb_VS_f hN st hv
  intro j
  induction j with
  | zero =>
    intro d h2 h3 h4 hs
    refine br_t ((nI_leI (by omega) (by omega)).mpr (by omega)) (yb_go39 hN hl hv hf hk (fun z => ?_) h1 h0)
    rw [(hs z).2, show d = N by have := (hs z).1; omega]
  | succ j ih =>
    intro d h2 h3 h4 hs
    by_cases hd : N ≤ d
    · refine br_t ((nI_leI (by omega) (by omega)).mpr hd) (yb_go39 hN hl hv hf hk (fun z => ?_) h1 h0)
      rw [(hs z).2, show d = N by have := (hs z).1; omega]
    · have es := (hs (by omega)).2
      refine br_f (by rw [nI_leI (by omega) (by omega)]; omega) ?_
      rw [nI_leI (by omega) (by omega)]
      refine br_c (fun q => yb_go39 hN hl hv hf hk (fun _ => ?_) h1 h0) (fun q => ?_)
      · rw [es]
        have := rb_skips (N := N) (k := k) (B := B) (st := st) (f := d) (N - d) (by omega) (fun i hi => by rw [rb_ok_lt hl (by omega), decide_eq_false (by omega), Bool.false_and])
        rw [this, show d + (N - d) = N by omega]
      · refine yb_fits hN hB hl (by omega) hv (fun t b => ?_) (fun t => ?_)
        · refine br_f (by decide) (yb_put hN hl (by omega) hv (fun _ => t) (h1 d h2 (by omega) ⟨by omega, fun _ => t, hv⟩ ?_))
          rw [es]
          exact rb_rm_take (by omega) (by rw [rb_ok_lt hl (by omega), decide_eq_true (by omega), t, b]; rfl)
        · refine br_t rfl (nm_r (nI_1 d) (ih (d + 1) (by omega) (by omega) (by omega) (fun _ => ⟨by omega, ?_⟩)))
          rw [es]
          refine rb_rm_skip (by omega) ?_
          rw [rb_ok_lt hl (by omega)]
          cases e : (rb_tk N st).testBit d
          · rw [t e]; simp
          · simp
theorem yb_goOn {post : Int32 → SY → Prop} {N k f : Nat} {any : Int32} {on w a : Nat → Int32} {B : Nat → Bool} {st : List Nat} (hN : N ≤ 6) (hB : rb_HB2 any on B) (hl : st.length < N) (hv : rb_VS N st) (hf : f ≤ N + 1) (hk : k ≤ N)
    (h1 : ∀ c, f ≤ c → c ≤ N → rb_VS N (c :: st) → rb_rm N k B st f ++ rb_up N k B st = rb_all N k B (c :: st) ++ rb_up N k B (c :: st) → post 1 (nI N, nI (st.length + 1), nI (rb_pl N (c :: st)), nI (rb_tk N (c :: st)), any, on, w, upd a st.length (nI c)))
    (h0 : rb_rm N k B st f = [] → post 0 (nI N, nI st.length, nI (rb_pl N st), nI (rb_tk N st), any, on, w, a)) :
    wpY_goOn post (nI N, nI st.length, nI (rb_pl N st), nI (rb_tk N st), any, on, w, a) (nI f) (nI k) :=
  ⟨_, yb_go2 hN hB hl hv hf hk h1 h0 N f (Nat.le_refl f) hf (by omega) (fun z => ⟨z, rfl⟩)⟩
/-- what is at the cursor -/
def rb_hd (N k : Nat) (B : Nat → Bool) (st : List Nat) (f : Nat) : List (List Nat) := if st.length = N then [st.reverse] else rb_rm N k B st f
/-- the cursor stands at the head of M, or the list is at its end -/
def yb_At (N k : Nat) (B : Nat → Bool) (any : Int32) (on w : Nat → Int32) : List (List Nat) → Int32 → SY → Prop
  | [], r, u => r = 0 ∧ ∃ x y z a, u = (nI N, x, y, z, any, on, w, a)
  | p :: L, r, u => r = 1 ∧ ∃ st a, u = (nI N, nI st.length, nI (rb_pl N st), nI (rb_tk N st), any, on, w, a) ∧ st.length = N ∧ st.reverse = p ∧ rb_up N k B st = L ∧ rb_VS N st ∧ rb_AR a st
theorem yb_loop {post : Int32 → SY → Prop} {N k : Nat} {any : Int32} {on w : Nat → Int32} {B : Nat → Bool} {L : List (List Nat)} (hN : N ≤ 6) (hB : rb_HB2 any on B) (hk : k ≤ N)
    (hp : ∀ r u, yb_At N k B any on w L r u → post r u) :
    ∀ (n : Nat) (st : List Nat) (f : Nat) (a : Nat → Int32), rb_mu N st f < n → rb_VS N st → rb_AR a st → st.length ≤ N → f ≤ N + 1 → rb_hd N k B st f ++ rb_up N k B st = L →
      wY_next_13 post (nI k) n (nI f) (nI N) (nI st.length) (nI (rb_pl N st)) (nI (rb_tk N st)) any on w a := by
  intro n
  induction n with
  | zero => intro st f a h; omega
  | succ n ih =>
    intro st f a hm hv ha hl hf hL
    by_cases hlN : st.length = N
    · refine br_t ((nI_leI (by omega) (by omega)).mpr (by omega)) (hp _ _ ?_)
      rw [← hL, show rb_hd N k B st f = [st.reverse] from if_pos hlN]
      exact ⟨rfl, st, a, rfl, hlN, rfl, rfl, hv, ha⟩
    · have hl' : st.length < N := by omega
      have ehd : rb_hd N k B st f = rb_rm N k B st f := if_neg hlN
      rw [ehd] at hL
      refine br_f (by rw [nI_leI (by omega) (by omega)]; omega) (yb_goOn hN hB hl' hv hf hk (fun c hc1 hc2 hv' hr => ?_) (fun hr => ?_))
      · refine br_f (by decide) (ih (c :: st) 0 _ (by have := rb_mu_put (N := N) (f := f) hl' hc2 hc1; omega) hv' (rb_AR_put ha) (by rw [List.length_cons]; omega) (by omega) ?_)
        rw [← hL, hr]
        congr 1
        by_cases e : (c :: st).length = N
        · rw [show rb_hd N k B (c :: st) 0 = [(c :: st).reverse] from if_pos e, rb_all_N e]
        · rw [show rb_hd N k B (c :: st) 0 = rb_rm N k B (c :: st) 0 from if_neg e, rb_rm_0 (by rw [List.length_cons] at e ⊢; omega)]
      · cases st with
        | nil =>
          refine br_t rfl (br_t rfl (hp _ _ ?_))
          rw [← hL, hr]
          exact ⟨rfl, _, _, _, _, rfl⟩
        | cons c st =>
          rw [List.length_cons] at hl'
          refine br_t rfl (br_f (nI_ne0 (Nat.succ_pos _) (by omega)) (yb_back hN (by omega) hv ha (nm_r (nI_1 c) (ih st (c + 1) a (by have := rb_mu_back (N := N) (st := st) (c := c) (f := f) (by omega); omega) hv.2.2 ha.2 (by omega) (by have := hv.1; omega) ?_))))
          rw [← hL, hr, show rb_hd N k B st (c + 1) = rb_rm N k B st (c + 1) from if_neg (by omega)]
          rfl
theorem rb_all_nil {N k : Nat} {B : Nat → Bool} : rb_all N k B [] = rb_PL N k B := by
  show (rb_comp N k B (N - 0) 0 0).map (fun s => [] ++ s) = rb_comp N k B N 0 0
  rw [Nat.sub_zero]
  exact List.map_id'' (fun _ => rfl) _
/-- next, at first -/
theorem yb_first {post : Int32 → SY → Prop} {N k : Nat} {any : Int32} {on w a : Nat → Int32} {B : Nat → Bool} (hN : N ≤ 6) (h0 : 0 < N) (hB : rb_HB2 any on B) (hk : k ≤ N)
    (hp : ∀ r u, yb_At N k B any on w (rb_PL N k B) r u → post r u) : wpY_next post (nI N, 0, 0, 0, any, on, w, a) (nI k) 1 := by
  refine br_f (by decide) ⟨_, yb_loop hN hB hk hp _ [] 0 a (Nat.lt_succ_self _) True.intro True.intro (by show 0 ≤ N; omega) (by omega) ?_⟩
  rw [show rb_hd N k B [] 0 = rb_rm N k B [] 0 from if_neg (by show ¬ 0 = N; omega), rb_rm_0 (by show 0 < N; omega), rb_all_nil]
  exact List.append_nil _
/-- next, from a placement -/
theorem yb_again {post : Int32 → SY → Prop} {N k : Nat} {any : Int32} {on w : Nat → Int32} {B : Nat → Bool} {p : List Nat} {L : List (List Nat)} {u : SY} {r : Int32} (hN : N ≤ 6) (h0 : 0 < N) (hB : rb_HB2 any on B) (hk : k ≤ N)
    (hu : yb_At N k B any on w (p :: L) r u) (hp : ∀ r u, yb_At N k B any on w L r u → post r u) : wpY_next post u (nI k) 0 := by
  obtain ⟨_, st, a, rfl, h1, h2, h3, h4, h5⟩ := hu
  cases st with
  | nil => exact absurd h1 (by show ¬ 0 = N; omega)
  | cons c st =>
    rw [List.length_cons] at h1
    refine br_t rfl (yb_back hN (by omega) h4 h5 (nm_r (nI_1 c) ⟨_, yb_loop hN hB hk hp _ st (c + 1) a (Nat.lt_succ_self _) h4.2.2 h5.2 (by omega) (by have := h4.1; omega) ?_⟩))
    rw [show rb_hd N k B st (c + 1) = rb_rm N k B st (c + 1) from if_neg (by omega), ← h3]
    rfl
