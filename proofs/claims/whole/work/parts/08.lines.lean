/-! H: lines -/
def rb_cnt (S : Nat) : Nat → Nat
  | 0 => 0
  | b + 1 => rb_cnt S b + S / 2 ^ b % 2
theorem rb_cnt_p (S a : Nat) : ∀ b, rb_cnt S (a + b) = rb_cnt S a + rb_cnt (S / 2 ^ a) b := by
  intro b
  induction b with
  | zero => rfl
  | succ b ih =>
    show rb_cnt S (a + b) + S / 2 ^ (a + b) % 2 = rb_cnt S a + (rb_cnt (S / 2 ^ a) b + S / 2 ^ a / 2 ^ b % 2)
    rw [ih, Nat.pow_add, Nat.div_div_eq_div_mul]
    omega
theorem rb_bit (x i : Nat) : x / 2 ^ i % 2 = if x.testBit i then 1 else 0 := by
  rw [Nat.testBit_eq_decide_div_mod_eq]
  rcases Nat.mod_two_eq_zero_or_one (x / 2 ^ i) with h | h
  · rw [h]; rfl
  · rw [h]; rfl
theorem rb_cnt_m {S N : Nat} : ∀ b, b ≤ N → rb_cnt S b = rb_cnt (S % 2 ^ N) b := by
  intro b
  induction b with
  | zero => intro _; rfl
  | succ b ih =>
    intro h
    show rb_cnt S b + S / 2 ^ b % 2 = rb_cnt (S % 2 ^ N) b + S % 2 ^ N / 2 ^ b % 2
    rw [ih (by omega), rb_bit, rb_bit, Nat.testBit_mod_two_pow, decide_eq_true (show b < N by omega), Bool.true_and]
theorem rb_cntN : ∀ N, N < 7 → ∀ m, m < 64 → (m < 2 ^ N → rb_cnt m N = rb_pc m) := by decide +kernel
theorem rb_cnt2 {N R C : Nat} (hN : N ≤ 6) (hR : R < 2 ^ N) (hC : C < 2 ^ N) : rb_cnt (2 ^ N * C + R) (N + N) = rb_pc R + rb_pc C := by
  have h6 := rb_p6 hN
  rw [rb_cnt_p, rb_cnt_m N (Nat.le_refl N), Nat.mul_add_mod, Nat.mod_eq_of_lt hR, Nat.mul_add_div (Nat.two_pow_pos N), Nat.div_eq_of_lt hR, Nat.add_zero, rb_cntN N (by omega) R (by omega) hR, rb_cntN N (by omega) C (by omega) hC]
theorem rb_pcm {a b : Nat} (h : ∀ c, c < 6 → a.testBit c = true → b.testBit c = true) : rb_pc a ≤ rb_pc b := by
  have q : ∀ c, c < 6 → a / 2 ^ c % 2 ≤ b / 2 ^ c % 2 := by
    intro c hc
    rw [rb_bit, rb_bit]
    cases e : a.testBit c
    · exact Nat.zero_le _
    · rw [h c hc e]; exact Nat.le_refl _
  have q0 := q 0 (by decide)
  have q1 := q 1 (by decide)
  have q2 := q 2 (by decide)
  have q3 := q 3 (by decide)
  have q4 := q 4 (by decide)
  have q5 := q 5 (by decide)
  simp only [Nat.reducePow, Nat.div_one] at q0 q1 q2 q3 q4 q5
  unfold rb_pc
  omega
/-- o is the mask of the columns outside of the rows R -/
def rb_out (N : Nat) (B : Nat → Bool) (R o : Nat) : Prop := o < 2 ^ N ∧ ∀ c, c < N → (o.testBit c = true ↔ ∃ r, r < N ∧ R.testBit r = false ∧ B (6 * r + c) = true)
def rb_cov (N : Nat) (B : Nat → Bool) (S : Nat) : Prop := ∀ r, r < N → ∀ c, c < N → B (6 * r + c) = true → S.testBit r = true ∨ S.testBit (N + c) = true
theorem rb_lines {N lx ly : Nat} {B : Nat → Bool} (hN : N ≤ 6)
    (x0 : lx ≤ N) (x1 : ∀ R, R < 2 ^ N → ∃ o, rb_out N B R o ∧ lx ≤ rb_pc R + rb_pc o) (x2 : lx = N ∨ ∃ R o, R < 2 ^ N ∧ rb_out N B R o ∧ rb_pc R + rb_pc o = lx)
    (y1 : ∀ S, S < 2 ^ (N + N) → rb_cov N B S → ly ≤ rb_cnt S (N + N)) (y2 : ly = N + N ∨ ∃ S, S < 2 ^ (N + N) ∧ rb_cov N B S ∧ rb_cnt S (N + N) = ly) : lx = ly := by
  have hp := Nat.two_pow_pos N
  have lt2 : ∀ R C, R < 2 ^ N → C < 2 ^ N → 2 ^ N * C + R < 2 ^ (N + N) := by
    intro R C hR hC
    rw [Nat.pow_add]
    have : 2 ^ N * (C + 1) ≤ 2 ^ N * 2 ^ N := Nat.mul_le_mul_left _ hC
    rw [Nat.mul_add, Nat.mul_one] at this
    omega
  have tb1 : ∀ R C r, R < 2 ^ N → r < N → (2 ^ N * C + R).testBit r = R.testBit r := by
    intro R C r hR hr
    rw [Nat.testBit_two_pow_mul_add C hR r, if_pos hr]
  have tb2 : ∀ R C c, R < 2 ^ N → (2 ^ N * C + R).testBit (N + c) = C.testBit c := by
    intro R C c hR
    rw [Nat.testBit_two_pow_mul_add C hR (N + c), if_neg (by omega), Nat.add_sub_cancel_left]
  apply Nat.le_antisymm
  · rcases y2 with h | ⟨S, hS, hcov, hcnt⟩
    · omega
    · have hR : S % 2 ^ N < 2 ^ N := Nat.mod_lt _ hp
      have hC : S / 2 ^ N < 2 ^ N := by
        rw [Nat.pow_add] at hS
        exact Nat.div_lt_of_lt_mul hS
      have e : 2 ^ N * (S / 2 ^ N) + S % 2 ^ N = S := Nat.div_add_mod S (2 ^ N)
      obtain ⟨o, ho, hl⟩ := x1 _ hR
      have hle : rb_pc o ≤ rb_pc (S / 2 ^ N) := by
        refine rb_pcm (fun c hc ht => ?_)
        by_cases hcN : c < N
        · obtain ⟨r, hr, hb, hB⟩ := (ho.2 c hcN).mp ht
          rcases hcov r hr c hcN hB with h | h
          · rw [← e, tb1 _ _ _ hR hr, hb] at h
            exact absurd h (by decide)
          · rw [← e, tb2 _ _ _ hR] at h
            exact h
        · rw [Nat.testBit_lt_two_pow (Nat.lt_of_lt_of_le ho.1 (Nat.pow_le_pow_right (by decide) (by omega)))] at ht
          exact absurd ht (by decide)
      have := rb_cnt2 hN hR hC
      rw [e] at this
      omega
  · rcases x2 with h | ⟨R, o, hR, ho, hs⟩
    · have hR : 2 ^ N - 1 < 2 ^ N := by omega
      have c0 : rb_cov N B (2 ^ N * 0 + (2 ^ N - 1)) := by
        intro r hr c _ _
        left
        rw [tb1 _ _ _ hR hr, Nat.testBit_two_pow_sub_one, decide_eq_true hr]
      have := y1 _ (lt2 _ 0 hR hp) c0
      rw [rb_cnt2 hN hR hp, rb_pcF N (by omega)] at this
      have z : rb_pc 0 = 0 := rfl
      omega
    · have c0 : rb_cov N B (2 ^ N * o + R) := by
        intro r hr c hc hB
        rw [tb1 _ _ _ hR hr, tb2 _ _ _ hR]
        cases hb : R.testBit r
        · right
          exact (ho.2 c hc).mpr ⟨r, hr, hb, hB⟩
        · left; rfl
      have := y1 _ (lt2 _ o hR ho.1) c0
      rw [rb_cnt2 hN hR ho.1] at this
      omega
