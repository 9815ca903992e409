/-! F: what a placement is worth -/
theorem rb_drop {p : List Nat} {r : Nat} (h : r < p.length) : p.drop r = p.getD r 0 :: p.drop (r + 1) := by
  rw [List.drop_eq_getElem_cons h, List.getD_eq_getElem?_getD, List.getElem?_eq_getElem h]
  rfl
def rb_wd (N : Nat) (W : Nat → Int32) : Nat → Nat → Nat → Int32 := fun r _ c => if c < N then W (6 * r + c) else 1
def rb_wo (N : Nat) (W : Nat → Int32) : Nat → List Nat → Int32
  | _, [] => 1
  | r, c :: s => (if c < N then W (6 * r + c) else 1) * rb_wo N W (r + 1) s
theorem rb_wo_PW {N : Nat} {W : Nat → Int32} : ∀ (s : List Nat) (r m : Nat), rb_PW N (rb_wd N W) r m s = rb_wo N W r s := by
  intro s
  induction s with
  | nil => intro r m; rfl
  | cons c s ih => intro r m; rw [rb_PW_c, ih]; rfl
/-- the forced rook -/
theorem rb_wf_PW {N r0 c0 : Nat} : ∀ (s : List Nat) (r m : Nat), (r0 < r ∨ r0 - r < s.length) → rb_PW N (rb_wf r0 c0) r m s = if r0 < r then 1 else if s.getD (r0 - r) 0 = c0 then 1 else 0 := by
  intro s
  induction s with
  | nil =>
    intro r m h
    rcases h with h | h
    · rw [if_pos h]; rfl
    · exact absurd h (Nat.not_lt_zero _)
  | cons c s ih =>
    intro r m h
    rw [rb_PW_c]
    by_cases h1 : r0 < r
    · rw [if_pos h1, ih _ _ (Or.inl (by omega)), if_pos (by omega), show rb_wf r0 c0 r m c = 1 from if_neg (by omega), Int32.mul_one]
    · rw [if_neg h1]
      by_cases h2 : r = r0
      · subst h2
        rw [ih _ _ (Or.inl (by omega)), if_pos (by omega), Nat.sub_self, Int32.mul_one]
        exact if_pos rfl
      · rw [show rb_wf r0 c0 r m c = 1 from if_neg h2, Int32.one_mul]
        have hlen : r0 - (r + 1) < s.length := by
          rcases h with h | h
          · omega
          · rw [List.length_cons] at h; omega
        rw [ih _ _ (Or.inr hlen), if_neg (by omega), show r0 - r = (r0 - (r + 1)) + 1 by omega]
        rfl
/-! signs -/
def rb_sg (n : Nat) : Int32 := if n % 2 = 0 then 1 else -1
theorem rb_sg_a (a b : Nat) : rb_sg (a + b) = rb_sg a * rb_sg b := by
  unfold rb_sg
  rcases Nat.mod_two_eq_zero_or_one a with h | h <;> rcases Nat.mod_two_eq_zero_or_one b with g | g
  · rw [if_pos (by omega), if_pos h, if_pos g]; rfl
  · rw [if_neg (by omega), if_pos h, if_neg (by omega)]; rfl
  · rw [if_neg (by omega), if_neg (by omega), if_pos g]; rfl
  · rw [if_pos (by omega), if_neg (by omega), if_neg (by omega)]; rfl
theorem rb_sg_s (a : Nat) : rb_sg (a + 1) = -rb_sg a := by
  rw [rb_sg_a]
  show rb_sg a * -1 = _
  grind
def rb_gt (m c : Nat) : Nat := rb_pc (m / 2 ^ (c + 1))
def rb_wg (N : Nat) (W : Nat → Int32) : Nat → Nat → Nat → Int32 := fun r m c => if c < N then W (6 * r + c) * rb_sg (rb_gt m c) else 1
def rb_ct (c : Nat) : List Nat → Nat
  | [] => 0
  | x :: s => (if x < c then 1 else 0) + rb_ct c s
def rb_iv : List Nat → Nat
  | [] => 0
  | c :: s => rb_ct c s + rb_iv s
def rb_gs (m : Nat) : List Nat → Nat
  | [] => 0
  | x :: s => rb_gt m x + rb_gs m s
/-- full: each row has a rook, no column twice -/
def rb_vl (N : Nat) : Nat → List Nat → Prop
  | _, [] => True
  | m, c :: s => c < N ∧ m.testBit c = false ∧ rb_vl N (m + 2 ^ c) s
theorem rb_gta : rb_chk3 64 6 6 (fun m c x => decide (m.testBit c = false → rb_gt (m + 2 ^ c) x = rb_gt m x + (if x < c then 1 else 0))) = true := by decide +kernel
theorem rb_gs_a {N m c : Nat} (hN : N ≤ 6) (hm : m < 2 ^ N) (hc : c < N) (hb : m.testBit c = false) : ∀ (s : List Nat), (∀ x, x ∈ s → x < N) → rb_gs (m + 2 ^ c) s = rb_gs m s + rb_ct c s := by
  intro s
  induction s with
  | nil => intro _; rfl
  | cons x s ih =>
    intro h
    have hx := h x (List.mem_cons_self ..)
    show rb_gt (m + 2 ^ c) x + rb_gs (m + 2 ^ c) s = (rb_gt m x + rb_gs m s) + ((if x < c then 1 else 0) + rb_ct c s)
    rw [ih (fun y hy => h y (List.mem_cons_of_mem _ hy)), of_decide_eq_true (rb_chk3_e rb_gta (i := m) (j := c) (l := x) (by have := rb_p6 hN; omega) (by omega) (by omega)) hb]
    omega
theorem rb_vl_lt {N : Nat} : ∀ (s : List Nat) (m : Nat), rb_vl N m s → ∀ x, x ∈ s → x < N := by
  intro s
  induction s with
  | nil => intro m _ x h; exact absurd h (List.not_mem_nil)
  | cons c s ih =>
    intro m h x hx
    obtain ⟨h1, _, h3⟩ := h
    rcases List.mem_cons.mp hx with rfl | hx
    · exact h1
    · exact ih _ h3 x hx
theorem rb_wg_PW {N : Nat} {W : Nat → Int32} (hN : N ≤ 6) : ∀ (s : List Nat) (r m : Nat), m < 2 ^ N → rb_vl N m s → rb_PW N (rb_wg N W) r m s = rb_sg (rb_iv s + rb_gs m s) * rb_wo N W r s := by
  intro s
  induction s with
  | nil => intro r m _ _; rfl
  | cons c s ih =>
    intro r m hm hv
    obtain ⟨h1, h2, h3⟩ := hv
    rw [rb_PW_c, show rb_nx N m c = m + 2 ^ c from if_pos h1, ih _ _ (rb_mf hN hm h1 h2).1 h3, rb_gs_a hN hm h1 h2 s (rb_vl_lt s _ h3)]
    show rb_wg N W r m c * (rb_sg (rb_iv s + (rb_gs m s + rb_ct c s)) * rb_wo N W (r + 1) s) = rb_sg ((rb_ct c s + rb_iv s) + (rb_gt m c + rb_gs m s)) * ((if c < N then W (6 * r + c) else 1) * rb_wo N W (r + 1) s)
    rw [show rb_wg N W r m c = W (6 * r + c) * rb_sg (rb_gt m c) from if_pos h1, if_pos h1, show (rb_ct c s + rb_iv s) + (rb_gt m c + rb_gs m s) = rb_gt m c + (rb_iv s + (rb_gs m s + rb_ct c s)) by omega, rb_sg_a (rb_gt m c)]
    grind
theorem rb_gs0 : ∀ (s : List Nat), rb_gs 0 s = 0 := by
  intro s
  induction s with
  | nil => rfl
  | cons x s ih =>
    show rb_pc (0 / 2 ^ (x + 1)) + rb_gs 0 s = 0
    rw [ih, Nat.zero_div]
    rfl
theorem rb_full {N : Nat} {B : Nat → Bool} (hN : N ≤ 6) : ∀ (d t p : Nat) (s : List Nat), p + d = N → t < 2 ^ N → s ∈ rb_comp N N B d t p → rb_vl N t s := by
  intro d
  induction d with
  | zero =>
    intro t p s _ _ h
    rw [show s = [] from List.mem_singleton.mp h]
    exact True.intro
  | succ d ih =>
    intro t p s hp ht h
    rw [rb_comp_s] at h
    obtain ⟨c, hc, h⟩ := rb_cf_mem _ h
    obtain ⟨ho, s', rfl, h'⟩ := rb_pi_mem h
    by_cases hcN : c < N
    · have hb : t.testBit c = false := by
        unfold rb_ok at ho
        rw [if_pos hcN] at ho
        cases e : t.testBit c
        · rfl
        · rw [e] at ho; simp at ho
      rw [show rb_nx N t c = t + 2 ^ c from if_pos hcN, show rb_np N p c = p + 1 from if_pos hcN] at h'
      exact ⟨hcN, hb, ih _ _ _ (by omega) (rb_mf hN ht hcN hb).1 h'⟩
    · unfold rb_ok at ho
      rw [if_neg hcN] at ho
      have := of_decide_eq_true ho
      omega
