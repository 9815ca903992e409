/-! I: bits of Int32 -/
theorem rb_sl : ∀ n, n < 32 → ((nI n &&& 31).toBitVec.smod 32).toNat = n := by decide +kernel
theorem rb_or (a b : Nat) : nI a ||| nI b = nI (a ||| b) := by
  apply Int32.toBitVec_inj.1
  show BitVec.ofNat 32 a ||| BitVec.ofNat 32 b = BitVec.ofNat 32 (a ||| b)
  apply BitVec.eq_of_getLsbD_eq
  intro i hi
  simp [hi]
theorem rb_1shl : ∀ c, c < 16 → (1 : Int32) <<< (nI c &&& 31) = nI (2 ^ c) := by decide +kernel
theorem rb_shr {n c : Nat} (h : n < 2 ^ 31) (hc : c < 32) : nI n >>> (nI c &&& 31) = nI (n / 2 ^ c) := pk_shrN h _ c (rb_sl c hc)
theorem rb_and1 {n : Nat} (h : n < 2 ^ 31) : nI n &&& 1 = nI (n % 2) := pk_andN (by omega) 1 (by decide)
theorem rb_shr1 {n c : Nat} (h : n < 2 ^ 31) (hc : c < 32) : (nI n >>> (nI c &&& 31)) &&& 1 = nI (n / 2 ^ c % 2) := by
  rw [rb_shr h hc, rb_and1 (Nat.lt_of_le_of_lt (Nat.div_le_self _ _) h)]
theorem rb_shr1_0 {n c : Nat} (h : n < 2 ^ 31) (hc : c < 32) : (nI n >>> (nI c &&& 31)) &&& 1 = 0 ↔ n.testBit c = false := by
  rw [rb_shr1 h hc, rb_bit]
  cases n.testBit c
  · exact ⟨fun _ => rfl, fun _ => rfl⟩
  · exact ⟨fun e => absurd e (by decide), fun e => absurd e (by decide)⟩
theorem rb_andb : ∀ m, m < 64 → ∀ c, c < 6 → ((nI m &&& nI (2 ^ c) = 0) ↔ m.testBit c = false) := by decide +kernel
theorem rb_orb : ∀ m, m < 64 → ∀ c, c < 6 → (m.testBit c = false → m ||| 2 ^ c = m + 2 ^ c) := by decide +kernel
theorem rb_clr : ∀ m, m < 64 → ∀ c, c < 6 → (m.testBit c = false → nI (m + 2 ^ c) &&& (nI (2 ^ c) ^^^ (-1)) = nI m) := by decide +kernel
theorem rb_or_ltk : rb_chk3 64 6 7 (fun m c N => decide ((m < 2 ^ N ∧ c < N) → m ||| 2 ^ c < 2 ^ N)) = true := by decide +kernel
theorem rb_or_lt {N m c : Nat} (hN : N ≤ 6) (hm : m < 2 ^ N) (hc : c < N) : m ||| 2 ^ c < 2 ^ N :=
  of_decide_eq_true (rb_chk3_e rb_or_ltk (i := m) (j := c) (l := N) (by have := rb_p6 hN; omega) (by omega) (by omega)) ⟨hm, hc⟩
theorem rb_2c {c : Nat} (h : c < 16) : 2 ^ c < 2 ^ 31 := Nat.pow_lt_pow_right (by decide) (by omega)
theorem rb_c6 {c : Nat} (h : c < 6) : 2 ^ c < 64 := Nat.pow_lt_pow_right (a := 2) (by decide) h
theorem rb_pc_lt (m : Nat) : rb_pc m ≤ 6 := by unfold rb_pc; omega
theorem rb_cnt6 (m : Nat) : rb_cnt m 6 = rb_pc m := by
  show 0 + m / 2 ^ 0 % 2 + m / 2 ^ 1 % 2 + m / 2 ^ 2 % 2 + m / 2 ^ 3 % 2 + m / 2 ^ 4 % 2 + m / 2 ^ 5 % 2 = _
  unfold rb_pc
  simp only [Nat.reducePow, Nat.div_one, Nat.zero_add]
theorem rb_cnt_le (S : Nat) : ∀ b, rb_cnt S b ≤ b := by
  intro b
  induction b with
  | zero => exact Nat.le_refl _
  | succ b ih => show rb_cnt S b + S / 2 ^ b % 2 ≤ b + 1; omega
/-! J: the i-th placement -/
theorem rb_pil {N k d t p c : Nat} {B : Nat → Bool} (hN : N ≤ 6) (hd : d + 1 ≤ N) (ht : t < 2 ^ N) (hp : rb_pc t = p) (h1 : p ≤ k) (h2 : k ≤ p + (d + 1)) (ha : rb_al N B (N - (d + 1)) t c = true) :
    nI (rb_pi N k B d t p c).length = rb_CB N B rb_w1 k d (rb_nx N t c) := by
  obtain ⟨n1, n2⟩ := rb_nx_f hN ht ha
  unfold rb_pi
  by_cases hcN : c < N
  · have eok : rb_ok N k B d t p c = (decide (p < k) && (!t.testBit c && B (6 * (N - (d + 1)) + c))) := if_pos hcN
    have eal : rb_al N B (N - (d + 1)) t c = (!t.testBit c && B (6 * (N - (d + 1)) + c)) := if_pos hcN
    have enp : rb_np N p c = p + 1 := if_pos hcN
    by_cases hpk : p < k
    · rw [if_pos (by rw [eok, ← eal, ha, decide_eq_true hpk]; rfl), List.length_map]
      exact (rb_len hN (by omega) n1 (by rw [n2, hp]) (by omega) (by omega)).symm
    · rw [if_neg (by rw [eok, decide_eq_false hpk]; simp), rb_CB_hi hN d _ n1 (by rw [n2, hp, enp]; omega)]
      rfl
  · have eok : rb_ok N k B d t p c = decide (k ≤ p + d) := if_neg hcN
    have enp : rb_np N p c = p := if_neg hcN
    by_cases hk : k ≤ p + d
    · rw [if_pos (by rw [eok, decide_eq_true hk]), List.length_map]
      exact (rb_len hN (by omega) n1 (by rw [n2, hp]) (by omega) (by omega)).symm
    · rw [if_neg (by rw [eok, decide_eq_false hk]; simp), rb_CB_lo hN d _ n1 (by rw [n2, hp, enp]; omega)]
      rfl
theorem rb_pin {N k d t p c : Nat} {B : Nat → Bool} (hc : c < N) (ha : rb_al N B (N - (d + 1)) t c = false) : rb_pi N k B d t p c = [] := by
  unfold rb_pi
  have eok : rb_ok N k B d t p c = (decide (p < k) && (!t.testBit c && B (6 * (N - (d + 1)) + c))) := if_pos hc
  have eal : rb_al N B (N - (d + 1)) t c = (!t.testBit c && B (6 * (N - (d + 1)) + c)) := if_pos hc
  rw [if_neg (by rw [eok, ← eal, ha]; simp)]
theorem rb_pi_lt {N k d t p c : Nat} {B : Nat → Bool} (hN : N ≤ 6) (hd : d + 1 ≤ N) : (rb_pi N k B d t p c).length < 2 ^ 31 := by
  unfold rb_pi
  split
  · rw [List.length_map]; exact rb_comp_lt hN (by omega)
  · exact Nat.two_pow_pos 31
/-- within the piece -/
theorem rb_ix_in {N k d t p e i : Nat} {B : Nat → Bool} {s : List Nat} (h : (rb_cf N (rb_pi N k B d t p) (e + 1))[i]? = some s) (hi : i < (rb_pi N k B d t p (N - e)).length) :
    rb_ok N k B d t p (N - e) = true ∧ ∃ s', s = (N - e) :: s' ∧ (rb_comp N k B d (rb_nx N t (N - e)) (rb_np N p (N - e)))[i]? = some s' := by
  rw [rb_cf_s, List.getElem?_append_left hi] at h
  unfold rb_pi at h
  split at h
  · next ho =>
    rw [List.getElem?_map, Option.map_eq_some_iff] at h
    obtain ⟨s', h1, h2⟩ := h
    exact ⟨ho, s', h2.symm, h1⟩
  · exact absurd h (by simp)
/-- behind the piece -/
theorem rb_ix_on {N k d t p e i : Nat} {B : Nat → Bool} {s : List Nat} (h : (rb_cf N (rb_pi N k B d t p) (e + 1))[i]? = some s) (hi : (rb_pi N k B d t p (N - e)).length ≤ i) :
    (rb_cf N (rb_pi N k B d t p) e)[i - (rb_pi N k B d t p (N - e)).length]? = some s := by
  rw [rb_cf_s, List.getElem?_append_right hi] at h
  exact h
