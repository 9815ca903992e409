/-! K: the signed sum forwards -/
theorem rb_gtm : ∀ m, m < 64 → ∀ c, c < 6 → (m.testBit c = true → rb_gt (m - 2 ^ c) c = rb_gt m c) := by decide +kernel
theorem rb_signed {N : Nat} {B : Nat → Bool} {W : Nat → Int32} {S : Nat → Int32} (hN : N ≤ 6) (h0 : S 0 = 1)
    (hS : ∀ m, 0 < m → m < 2 ^ N → S m = rb_sum (fun c => if m.testBit c && B (6 * (rb_pc m - 1) + c) then W (6 * (rb_pc m - 1) + c) * S (m - 2 ^ c) * rb_sg (rb_gt m c) else 0) N) :
    S (2 ^ N - 1) = rb_CB N B (rb_wg N W) N N 0 := by
  have hp : 0 < 2 ^ N := Nat.two_pow_pos N
  have h6 := rb_p6 hN
  have step : ∀ r, r < N → rb_sum (fun m => (if rb_pc m = r then S m else 0) * rb_CB N B (rb_wg N W) N (N - r) m) (2 ^ N) = rb_sum (fun m => (if rb_pc m = r + 1 then S m else 0) * rb_CB N B (rb_wg N W) N (N - (r + 1)) m) (2 ^ N) := by
    intro r hr
    obtain ⟨d, hd⟩ : ∃ d, N = r + 1 + d := ⟨N - (r + 1), by omega⟩
    have d1 : N - r = d + 1 := by omega
    have d2 : N - (r + 1) = d := by omega
    have d3 : N - (d + 1) = r := by omega
    rw [d1, d2]
    refine rb_dual (v := fun m => if rb_pc m = r then S m else 0) (v' := fun m => if rb_pc m = r + 1 then S m else 0) (fun m => if_neg (Nat.lt_irrefl N)) (fun m hm => ?_)
    rw [d3]
    have z : (if rb_pc m = r then S m else 0) * rb_CB N B (rb_wg N W) N d m = 0 := by
      by_cases e : rb_pc m = r
      · rw [rb_CB_lo hN d m hm (by omega), Int32.mul_zero]
      · rw [if_neg e, Int32.zero_mul]
    have y : (if rb_pc m = r + 1 then S m else 0) = rb_row N B (rb_wg N W) r (fun m => if rb_pc m = r then S m else 0) m := by
      unfold rb_row
      by_cases e : rb_pc m = r + 1
      · have hm0 : 0 < m := by
          rcases Nat.eq_zero_or_pos m with rfl | h
          · exact absurd e (by show ¬ 0 = r + 1; omega)
          · exact h
        rw [if_pos e, hS m hm0 hm, e, Nat.add_sub_cancel]
        refine rb_sum_c (fun c hc => ?_)
        cases hb : m.testBit c
        · rfl
        · cases B (6 * r + c)
          · rfl
          · have := (rb_mg hN hm hc hb).2.2
            show W (6 * r + c) * S (m - 2 ^ c) * rb_sg (rb_gt m c) = (if rb_pc (m - 2 ^ c) = r then S (m - 2 ^ c) else 0) * rb_wg N W r (m - 2 ^ c) c
            rw [if_pos (by omega), show rb_wg N W r (m - 2 ^ c) c = W (6 * r + c) * rb_sg (rb_gt (m - 2 ^ c) c) from if_pos hc, rb_gtm m (by omega) c (by omega) hb]
            grind
      · rw [if_neg e]
        refine (rb_sum_z (fun c hc => ?_)).symm
        cases hb : m.testBit c
        · rfl
        · have := (rb_mg hN hm hc hb).2.2
          show (if (true && B (6 * r + c)) = true then (if rb_pc (m - 2 ^ c) = r then S (m - 2 ^ c) else 0) * rb_wg N W r (m - 2 ^ c) c else 0) = 0
          rw [if_neg (show ¬ rb_pc (m - 2 ^ c) = r by omega), Int32.zero_mul]
          exact ite_self _
    show (if rb_pc m = r + 1 then S m else 0) * rb_CB N B (rb_wg N W) N d m = (if rb_pc m = r then S m else 0) * rb_CB N B (rb_wg N W) N d m + rb_row N B (rb_wg N W) r (fun m => if rb_pc m = r then S m else 0) m * rb_CB N B (rb_wg N W) N d m
    rw [z, Int32.zero_add, y]
  have all : ∀ r, r ≤ N → rb_sum (fun m => (if rb_pc m = 0 then S m else 0) * rb_CB N B (rb_wg N W) N N m) (2 ^ N) = rb_sum (fun m => (if rb_pc m = r then S m else 0) * rb_CB N B (rb_wg N W) N (N - r) m) (2 ^ N) := by
    intro r
    induction r with
    | zero => intro _; rfl
    | succ r ih => intro hr; rw [ih (by omega), step r (by omega)]
  have a0 : rb_sum (fun m => (if rb_pc m = 0 then S m else 0) * rb_CB N B (rb_wg N W) N N m) (2 ^ N) = rb_CB N B (rb_wg N W) N N 0 := by
    rw [rb_sum_d (a := 0) hp (fun m hm hne => by rw [if_neg (fun e => hne (rb_pc0 m (by omega) e)), Int32.zero_mul]), if_pos (by rfl), h0, Int32.one_mul]
  have aN : rb_sum (fun m => (if rb_pc m = N then S m else 0) * rb_CB N B (rb_wg N W) N (N - N) m) (2 ^ N) = S (2 ^ N - 1) := by
    rw [rb_sum_d (a := 2 ^ N - 1) (by omega) (fun m hm hne => by rw [if_neg (fun e => hne ((rb_pcN N (by omega) m (by omega) hm).2 e)), Int32.zero_mul]), if_pos (rb_pcF N (by omega)), Nat.sub_self, rb_CB_0, if_pos (rb_pcF N (by omega)), Int32.mul_one]
  rw [← aN, ← a0]
  exact (all N (Nat.le_refl N)).symm
/-! what the queries answer, over the one list -/
def rb_PL (N k : Nat) (B : Nat → Bool) : List (List Nat) := rb_comp N k B N 0 0
theorem rb_PLw {N k : Nat} {B : Nat → Bool} (w : Nat → Nat → Nat → Int32) (hN : N ≤ 6) (hk : k ≤ N) : rb_ls (rb_PW N w 0 0) (rb_PL N k B) = rb_CB N B w k N 0 := by
  have := rb_LS (k := k) (B := B) (w := w) hN N 0 0 (Nat.le_refl N) (Nat.two_pow_pos N) rfl (Nat.zero_le k) (by omega)
  rw [Nat.sub_self] at this
  exact this
theorem rb_PLn {N k : Nat} {B : Nat → Bool} (hN : N ≤ 6) (hk : k ≤ N) : rb_CB N B rb_w1 k N 0 = nI (rb_PL N k B).length :=
  rb_len hN (Nat.le_refl N) (Nat.two_pow_pos N) rfl (Nat.zero_le k) (by omega)
theorem rb_PLlt {N k : Nat} {B : Nat → Bool} (hN : N ≤ 6) : (rb_PL N k B).length < 2 ^ 31 := rb_comp_lt hN (Nat.le_refl N)
theorem rb_PLm {N k : Nat} {B : Nat → Bool} {p : List Nat} (h : p ∈ rb_PL N k B) : p.length = N ∧ ∀ c, c ∈ p → c ≤ N := rb_comp_mem N 0 0 p h
theorem rb_PLsum {N k : Nat} {B : Nat → Bool} {W : Nat → Int32} (hN : N ≤ 6) (hk : k ≤ N) : rb_ls (rb_wo N W 0) (rb_PL N k B) = rb_CB N B (rb_wd N W) k N 0 := by
  rw [← rb_PLw _ hN hk]
  exact rb_ls_c (fun p _ => (rb_wo_PW p 0 0).symm)
theorem rb_PLthr {N k r0 c0 : Nat} {B : Nat → Bool} (hN : N ≤ 6) (hk : k ≤ N) (hr : r0 < N) : rb_ls (fun p => if p.getD r0 0 = c0 then 1 else 0) (rb_PL N k B) = rb_CB N B (rb_wf r0 c0) k N 0 := by
  rw [← rb_PLw _ hN hk]
  refine rb_ls_c (fun p hp => ?_)
  rw [rb_wf_PW p 0 0 (Or.inr (by rw [(rb_PLm hp).1]; omega)), if_neg (Nat.not_lt_zero r0)]
  rfl
theorem rb_PLsg {N : Nat} {B : Nat → Bool} {W : Nat → Int32} (hN : N ≤ 6) : rb_ls (fun p => rb_sg (rb_iv p) * rb_wo N W 0 p) (rb_PL N N B) = rb_CB N B (rb_wg N W) N N 0 := by
  rw [← rb_PLw _ hN (Nat.le_refl N)]
  refine rb_ls_c (fun p hp => ?_)
  rw [rb_wg_PW hN p 0 0 (Nat.two_pow_pos N) (rb_full hN N 0 0 p (by omega) (Nat.two_pow_pos N) hp), rb_gs0, Nat.add_zero]
theorem rb_PLhit {N kk : Nat} {h : Nat → Nat → Nat} (hN : N ≤ 6) : rb_ls (fun p => if rb_hi h 0 p = kk then 1 else 0) (rb_PL N N (fun _ => true)) = rb_HB N h kk N 0 0 := by
  have := rb_HL (h := h) (kk := kk) hN N 0 0 0 (Nat.le_refl N) (Nat.two_pow_pos N) rfl (by omega)
  rw [Nat.sub_self] at this
  rw [← this]
  exact rb_ls_c (fun p _ => by rw [Nat.zero_add])
