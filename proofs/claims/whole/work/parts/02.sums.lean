/-! B: sums over naturals below a bound, in Int32 -/
def rb_sum (f : Nat → Int32) : Nat → Int32
  | 0 => 0
  | n + 1 => rb_sum f n + f n
theorem rb_sum_s (f : Nat → Int32) (n : Nat) : rb_sum f (n + 1) = rb_sum f n + f n := rfl
theorem rb_sum_c {f g : Nat → Int32} {n : Nat} (h : ∀ i, i < n → f i = g i) : rb_sum f n = rb_sum g n := by
  induction n with
  | zero => rfl
  | succ n ih => rw [rb_sum_s, rb_sum_s, ih (fun i hi => h i (by omega)), h n (by omega)]
theorem rb_sum_z {f : Nat → Int32} {n : Nat} (h : ∀ i, i < n → f i = 0) : rb_sum f n = 0 := by
  induction n with
  | zero => rfl
  | succ n ih => rw [rb_sum_s, ih (fun i hi => h i (by omega)), h n (by omega)]; rfl
theorem rb_sum_a (f g : Nat → Int32) (n : Nat) : rb_sum (fun i => f i + g i) n = rb_sum f n + rb_sum g n := by
  induction n with
  | zero => rfl
  | succ n ih => rw [rb_sum_s, rb_sum_s, rb_sum_s, ih]; grind
theorem rb_sum_m (f : Nat → Int32) (x : Int32) (n : Nat) : rb_sum (fun i => x * f i) n = x * rb_sum f n := by
  induction n with
  | zero => exact (Int32.mul_zero).symm
  | succ n ih => rw [rb_sum_s, rb_sum_s, ih]; grind
theorem rb_sum_mr (f : Nat → Int32) (x : Int32) (n : Nat) : rb_sum (fun i => f i * x) n = rb_sum f n * x := by
  induction n with
  | zero => exact (Int32.zero_mul).symm
  | succ n ih => rw [rb_sum_s, rb_sum_s, ih]; grind
theorem rb_sum_w (f : Nat → Nat → Int32) (m n : Nat) : rb_sum (fun i => rb_sum (fun j => f i j) m) n = rb_sum (fun j => rb_sum (fun i => f i j) n) m := by
  induction n with
  | zero => exact (rb_sum_z (fun i _ => rfl)).symm
  | succ n ih =>
    rw [rb_sum_s, ih, ← rb_sum_a]
    exact rb_sum_c (fun i _ => rfl)
theorem rb_sum_d {f : Nat → Int32} {a n : Nat} (ha : a < n) (h : ∀ i, i < n → i ≠ a → f i = 0) : rb_sum f n = f a := by
  induction n with
  | zero => omega
  | succ n ih =>
    rw [rb_sum_s]
    by_cases e : a = n
    · subst e
      rw [rb_sum_z (fun i hi => h i (by omega) (by omega)), Int32.zero_add]
    · rw [ih (by omega) (fun i hi => h i (by omega)), h n (by omega) (by omega), Int32.add_zero]
theorem rb_sum_p (f : Nat → Int32) (a b : Nat) : rb_sum f (a + b) = rb_sum f a + rb_sum (fun i => f (a + i)) b := by
  induction b with
  | zero => exact (Int32.add_zero _).symm
  | succ b ih => rw [← Nat.add_assoc, rb_sum_s, rb_sum_s, ih, Int32.add_assoc]
theorem rb_sum_f (f : Nat → Int32) (n : Nat) : rb_sum f (n + 1) = f 0 + rb_sum (fun i => f (i + 1)) n := by
  induction n with
  | zero => rw [rb_sum_s]; show (0 : Int32) + f 0 = f 0 + 0; rw [Int32.zero_add, Int32.add_zero]
  | succ n ih => rw [rb_sum_s, ih, rb_sum_s, Int32.add_assoc]
/-- a bit set, a bit taken away: the same sum -/
theorem rb_shift (N : Nat) : ∀ (c : Nat), c < N → ∀ (g : Nat → Nat → Int32),
    rb_sum (fun m => if m.testBit c then 0 else g m (m + 2 ^ c)) (2 ^ N) = rb_sum (fun m => if m.testBit c then g (m - 2 ^ c) m else 0) (2 ^ N) := by
  induction N with
  | zero => intro c h; omega
  | succ N ih =>
    intro c h g
    have e : 2 ^ (N + 1) = 2 ^ N + 2 ^ N := by rw [Nat.pow_succ]; omega
    rw [e, rb_sum_p, rb_sum_p]
    by_cases hc : c = N
    · subst hc
      have a1 : rb_sum (fun m => if m.testBit c then 0 else g m (m + 2 ^ c)) (2 ^ c) = rb_sum (fun m => g m (m + 2 ^ c)) (2 ^ c) :=
        rb_sum_c (fun i hi => by rw [Nat.testBit_lt_two_pow hi]; rfl)
      have a2 : rb_sum (fun i => if (2 ^ c + i).testBit c then 0 else g (2 ^ c + i) (2 ^ c + i + 2 ^ c)) (2 ^ c) = 0 :=
        rb_sum_z (fun i hi => by rw [Nat.testBit_two_pow_add_eq, Nat.testBit_lt_two_pow hi]; rfl)
      have a3 : rb_sum (fun m => if m.testBit c then g (m - 2 ^ c) m else 0) (2 ^ c) = 0 :=
        rb_sum_z (fun i hi => by rw [Nat.testBit_lt_two_pow hi]; rfl)
      have a4 : rb_sum (fun i => if (2 ^ c + i).testBit c then g (2 ^ c + i - 2 ^ c) (2 ^ c + i) else 0) (2 ^ c) = rb_sum (fun m => g m (m + 2 ^ c)) (2 ^ c) :=
        rb_sum_c (fun i hi => by
          rw [Nat.testBit_two_pow_add_eq, Nat.testBit_lt_two_pow hi, Nat.add_sub_cancel_left, Nat.add_comm]; rfl)
      rw [a1, a2, a3, a4, Int32.add_zero, Int32.zero_add]
    · have hN : c < N := by omega
      rw [ih c hN g]
      congr 1
      have b1 : rb_sum (fun i => if (2 ^ N + i).testBit c then 0 else g (2 ^ N + i) (2 ^ N + i + 2 ^ c)) (2 ^ N) = rb_sum (fun m => if m.testBit c then 0 else (fun a b => g (2 ^ N + a) (2 ^ N + b)) m (m + 2 ^ c)) (2 ^ N) :=
        rb_sum_c (fun i hi => by rw [Nat.testBit_two_pow_add_gt hN, Nat.add_assoc])
      have b2 : rb_sum (fun i => if (2 ^ N + i).testBit c then g (2 ^ N + i - 2 ^ c) (2 ^ N + i) else 0) (2 ^ N) = rb_sum (fun m => if m.testBit c then (fun a b => g (2 ^ N + a) (2 ^ N + b)) (m - 2 ^ c) m else 0) (2 ^ N) :=
        rb_sum_c (fun i hi => by
          rw [Nat.testBit_two_pow_add_gt hN]
          by_cases t : i.testBit c
          · have := Nat.ge_two_pow_of_testBit t
            rw [if_pos t, if_pos t]
            show g (2 ^ N + i - 2 ^ c) (2 ^ N + i) = g (2 ^ N + (i - 2 ^ c)) (2 ^ N + i)
            rw [Nat.add_sub_assoc this]
          · rw [if_neg t, if_neg t])
      rw [b1, b2]
      exact ih c hN (fun a b => g (2 ^ N + a) (2 ^ N + b))
/-! masks of at most six bits -/
def rb_pc (m : Nat) : Nat := m % 2 + m / 2 % 2 + m / 4 % 2 + m / 8 % 2 + m / 16 % 2 + m / 32 % 2
def rb_chk3 (a b c : Nat) (f : Nat → Nat → Nat → Bool) : Bool := (List.range a).all fun i => (List.range b).all fun j => (List.range c).all fun l => f i j l
theorem rb_chk3_e {a b c : Nat} {f : Nat → Nat → Nat → Bool} (h : rb_chk3 a b c f = true) {i j l : Nat} (hi : i < a) (hj : j < b) (hl : l < c) : f i j l = true := by
  unfold rb_chk3 at h
  have h1 := List.all_eq_true.mp h i (List.mem_range.mpr hi)
  have h2 := List.all_eq_true.mp h1 j (List.mem_range.mpr hj)
  exact List.all_eq_true.mp h2 l (List.mem_range.mpr hl)
theorem rb_mfk : rb_chk3 7 64 6 (fun N m c => decide ((m < 2 ^ N ∧ c < N ∧ m.testBit c = false) → m + 2 ^ c < 2 ^ N ∧ rb_pc (m + 2 ^ c) = rb_pc m + 1)) = true := by decide +kernel
theorem rb_mfb : ∀ m, m < 64 → ∀ c, c < 6 → (m.testBit c = true → 2 ^ c ≤ m ∧ (m - 2 ^ c).testBit c = false ∧ rb_pc m = rb_pc (m - 2 ^ c) + 1) := by decide +kernel
theorem rb_p6 {N : Nat} (h : N ≤ 6) : 2 ^ N ≤ 64 := Nat.pow_le_pow_right (n := 2) (by decide) h
theorem rb_mf {N m c : Nat} (hN : N ≤ 6) (hm : m < 2 ^ N) (hc : c < N) (hb : m.testBit c = false) : m + 2 ^ c < 2 ^ N ∧ rb_pc (m + 2 ^ c) = rb_pc m + 1 :=
  of_decide_eq_true (rb_chk3_e rb_mfk (i := N) (j := m) (l := c) (by omega) (by have := rb_p6 hN; omega) (by omega)) ⟨hm, hc, hb⟩
theorem rb_mg {N m c : Nat} (hN : N ≤ 6) (hm : m < 2 ^ N) (hc : c < N) (hb : m.testBit c = true) : 2 ^ c ≤ m ∧ (m - 2 ^ c).testBit c = false ∧ rb_pc m = rb_pc (m - 2 ^ c) + 1 :=
  rb_mfb m (by have := rb_p6 hN; omega) c (by omega) hb
theorem rb_pcN : ∀ N, N < 7 → ∀ m, m < 64 → (m < 2 ^ N → rb_pc m ≤ N ∧ (rb_pc m = N → m = 2 ^ N - 1)) := by decide +kernel
theorem rb_pcF : ∀ N, N < 7 → rb_pc (2 ^ N - 1) = N := by decide +kernel
