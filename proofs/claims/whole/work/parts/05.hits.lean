/-! E: hits -/
def rb_HB (N : Nat) (h : Nat → Nat → Nat) (kk : Nat) : Nat → Nat → Nat → Int32
  | 0, _, j => if j = kk then 1 else 0
  | d + 1, m, j => rb_sum (fun c => if m.testBit c then 0 else rb_HB N h kk d (m + 2 ^ c) (j + h (N - (d + 1)) c)) N
theorem rb_HB_0 {N : Nat} {h : Nat → Nat → Nat} {kk m j : Nat} : rb_HB N h kk 0 m j = if j = kk then 1 else 0 := rfl
theorem rb_HB_s {N : Nat} {h : Nat → Nat → Nat} {kk d m j : Nat} : rb_HB N h kk (d + 1) m j = rb_sum (fun c => if m.testBit c then 0 else rb_HB N h kk d (m + 2 ^ c) (j + h (N - (d + 1)) c)) N := rfl
def rb_hi (h : Nat → Nat → Nat) : Nat → List Nat → Nat
  | _, [] => 0
  | r, c :: s => h r c + rb_hi h (r + 1) s
theorem rb_HB_hi {N : Nat} {h : Nat → Nat → Nat} {kk : Nat} : ∀ (d m j : Nat), kk < j → rb_HB N h kk d m j = 0 := by
  intro d
  induction d with
  | zero => intro m j hj; rw [rb_HB_0, if_neg (by omega)]
  | succ d ih =>
    intro m j hj
    rw [rb_HB_s]
    refine rb_sum_z (fun c _ => ?_)
    rw [ih _ _ (by omega)]
    exact ite_self _
theorem rb_HL {N : Nat} {h : Nat → Nat → Nat} {kk : Nat} (hN : N ≤ 6) : ∀ (d t j p : Nat), d ≤ N → t < 2 ^ N → rb_pc t = p → p + d = N →
    rb_ls (fun s => if j + rb_hi h (N - d) s = kk then 1 else 0) (rb_comp N N (fun _ => true) d t p) = rb_HB N h kk d t j := by
  intro d
  induction d with
  | zero =>
    intro t j p _ _ _ _
    show (if j + 0 = kk then (1 : Int32) else 0) + 0 = _
    rw [Int32.add_zero, rb_HB_0, Nat.add_zero]
  | succ d ih =>
    intro t j p hd ht hp hpd
    rw [rb_comp_s, rb_ls_cf _ _ _ _ (Nat.le_refl _), rb_HB_s, rb_sum_s]
    have e1 : N - (d + 1) + 1 = N - d := by omega
    have last : rb_pi N N (fun _ => true) d t p (N + 1 - (N + 1) + N) = [] := by
      rw [show N + 1 - (N + 1) + N = N by omega]
      unfold rb_pi
      rw [if_neg (by unfold rb_ok; rw [if_neg (Nat.lt_irrefl N)]; simp; omega)]
    rw [last]
    show _ + (0 : Int32) = _
    rw [Int32.add_zero]
    refine rb_sum_c (fun c hc => ?_)
    rw [show N + 1 - (N + 1) + c = c by omega]
    unfold rb_pi
    have eok : rb_ok N N (fun _ => true) d t p c = (decide (p < N) && (!t.testBit c && true)) := if_pos hc
    cases hb : t.testBit c
    · rw [if_pos (by rw [eok, hb, decide_eq_true (show p < N by omega)]; rfl), if_neg (by decide), rb_ls_map]
      rw [show rb_nx N t c = t + 2 ^ c from if_pos hc, show rb_np N p c = p + 1 from if_pos hc]
      obtain ⟨m1, m2⟩ := rb_mf hN ht hc hb
      rw [← ih (t + 2 ^ c) (j + h (N - (d + 1)) c) (p + 1) (by omega) m1 (by omega) (by omega)]
      refine rb_ls_c (fun s _ => ?_)
      show (if j + (h (N - (d + 1)) c + rb_hi h (N - (d + 1) + 1) s) = kk then (1 : Int32) else 0) = _
      rw [e1, Nat.add_assoc]
    · rw [if_neg (by rw [eok, hb]; simp), if_pos rfl]
      rfl
/-- the sum at a row -/
def rb_Q (N : Nat) (h : Nat → Nat → Nat) (kk : Nat) (H : Nat → Nat → Int32) (r : Nat) : Int32 :=
  rb_sum (fun m => if rb_pc m = r then rb_sum (fun j => H m j * rb_HB N h kk (N - r) m j) (N + 1) else 0) (2 ^ N)
theorem rb_hsh {N d a m kk x : Nat} {h : Nat → Nat → Nat} {H : Nat → Nat → Int32} (hk : kk ≤ N) (hx : x ≤ 1) :
    rb_sum (fun j => H a j * rb_HB N h kk d m (j + x)) (N + 1) = rb_sum (fun j => (if x ≤ j then H a (j - x) else 0) * rb_HB N h kk d m j) (N + 1) := by
  rcases (show x = 0 ∨ x = 1 by omega) with rfl | rfl
  · exact rb_sum_c (fun j _ => by rw [if_pos (Nat.zero_le j)]; rfl)
  · rw [rb_sum_s, rb_sum_f, rb_HB_hi d m (N + 1) (by omega), Int32.mul_zero, Int32.add_zero, if_neg (by decide), Int32.zero_mul, Int32.zero_add]
    exact rb_sum_c (fun j _ => by rw [if_pos (by omega)]; rfl)
theorem rb_Qs {N kk r : Nat} {h : Nat → Nat → Nat} {H : Nat → Nat → Int32} (hN : N ≤ 6) (hk : kk ≤ N) (hr : r < N) (hh : ∀ a b, h a b ≤ 1)
    (hH : ∀ m, m < 2 ^ N → rb_pc m = r + 1 → ∀ j, j ≤ N → H m j = rb_sum (fun c => if m.testBit c then (if h r c ≤ j then H (m - 2 ^ c) (j - h r c) else 0) else 0) N) :
    rb_Q N h kk H r = rb_Q N h kk H (r + 1) := by
  obtain ⟨d, hd⟩ : ∃ d, N = r + 1 + d := ⟨N - (r + 1), by omega⟩
  have d1 : N - r = d + 1 := by omega
  have d2 : N - (r + 1) = d := by omega
  have d3 : N - (d + 1) = r := by omega
  unfold rb_Q
  rw [d1, d2]
  have hl : rb_sum (fun m => if rb_pc m = r then rb_sum (fun j => H m j * rb_HB N h kk (d + 1) m j) (N + 1) else 0) (2 ^ N) =
      rb_sum (fun m => rb_sum (fun c => if m.testBit c then 0 else (fun a b => if rb_pc a = r then rb_sum (fun j => H a j * rb_HB N h kk d b (j + h r c)) (N + 1) else 0) m (m + 2 ^ c)) N) (2 ^ N) := by
    refine rb_sum_c (fun m _ => ?_)
    by_cases hp : rb_pc m = r
    · rw [if_pos hp]
      have : rb_sum (fun j => H m j * rb_HB N h kk (d + 1) m j) (N + 1) = rb_sum (fun j => rb_sum (fun c => H m j * (if m.testBit c then 0 else rb_HB N h kk d (m + 2 ^ c) (j + h r c))) N) (N + 1) :=
        rb_sum_c (fun j _ => by rw [rb_HB_s, d3, rb_sum_m])
      rw [this, rb_sum_w]
      refine rb_sum_c (fun c _ => ?_)
      cases m.testBit c
      · show _ = if rb_pc m = r then rb_sum (fun j => H m j * rb_HB N h kk d (m + 2 ^ c) (j + h r c)) (N + 1) else 0
        rw [if_pos hp]
        exact rb_sum_c (fun j _ => rfl)
      · exact rb_sum_z (fun j _ => Int32.mul_zero)
    · rw [if_neg hp]
      refine (rb_sum_z (fun c _ => ?_)).symm
      show (if m.testBit c = true then (0 : Int32) else (if rb_pc m = r then _ else 0)) = 0
      rw [if_neg hp]
      exact ite_self _
  have hq : rb_sum (fun m => if rb_pc m = r + 1 then rb_sum (fun j => H m j * rb_HB N h kk d m j) (N + 1) else 0) (2 ^ N) =
      rb_sum (fun m => rb_sum (fun c => if m.testBit c then (fun a b => if rb_pc a = r then rb_sum (fun j => H a j * rb_HB N h kk d b (j + h r c)) (N + 1) else 0) (m - 2 ^ c) m else 0) N) (2 ^ N) := by
    refine rb_sum_c (fun m hm => ?_)
    by_cases hp : rb_pc m = r + 1
    · rw [if_pos hp]
      have : rb_sum (fun j => H m j * rb_HB N h kk d m j) (N + 1) = rb_sum (fun j => rb_sum (fun c => (if m.testBit c then (if h r c ≤ j then H (m - 2 ^ c) (j - h r c) else 0) else 0) * rb_HB N h kk d m j) N) (N + 1) :=
        rb_sum_c (fun j hj => by rw [hH m hm hp j (by omega), rb_sum_mr])
      rw [this, rb_sum_w]
      refine rb_sum_c (fun c hc => ?_)
      cases hb : m.testBit c
      · exact rb_sum_z (fun j _ => Int32.zero_mul)
      · have := (rb_mg hN hm hc hb).2.2
        show _ = if rb_pc (m - 2 ^ c) = r then rb_sum (fun j => H (m - 2 ^ c) j * rb_HB N h kk d m (j + h r c)) (N + 1) else 0
        rw [if_pos (by omega), rb_hsh hk (hh r c)]
        exact rb_sum_c (fun j _ => rfl)
    · rw [if_neg hp]
      refine (rb_sum_z (fun c hc => ?_)).symm
      cases hb : m.testBit c
      · rfl
      · have := (rb_mg hN hm hc hb).2.2
        show (if rb_pc (m - 2 ^ c) = r then rb_sum (fun j => H (m - 2 ^ c) j * rb_HB N h kk d m (j + h r c)) (N + 1) else 0) = 0
        rw [if_neg (by omega)]
  rw [hl, hq, rb_sum_w _ N (2 ^ N), rb_sum_w _ N (2 ^ N)]
  exact rb_sum_c (fun c hc => rb_shift N c hc (fun a b => if rb_pc a = r then rb_sum (fun j => H a j * rb_HB N h kk d b (j + h r c)) (N + 1) else 0))
theorem rb_pc0 : ∀ m, m < 64 → (rb_pc m = 0 → m = 0) := by decide +kernel
theorem rb_hits {N kk : Nat} {h : Nat → Nat → Nat} {H : Nat → Nat → Int32} (hN : N ≤ 6) (hk : kk ≤ N) (hh : ∀ a b, h a b ≤ 1)
    (h00 : H 0 0 = 1) (h0 : ∀ j, 0 < j → j ≤ N → H 0 j = 0)
    (hH : ∀ m, 0 < m → m < 2 ^ N → ∀ j, j ≤ N → H m j = rb_sum (fun c => if m.testBit c then (if h (rb_pc m - 1) c ≤ j then H (m - 2 ^ c) (j - h (rb_pc m - 1) c) else 0) else 0) N) :
    H (2 ^ N - 1) kk = rb_HB N h kk N 0 0 := by
  have hp : 0 < 2 ^ N := Nat.two_pow_pos N
  have all : ∀ r, r ≤ N → rb_Q N h kk H 0 = rb_Q N h kk H r := by
    intro r
    induction r with
    | zero => intro _; rfl
    | succ r ih =>
      intro hr
      rw [ih (by omega)]
      refine rb_Qs hN hk (by omega) hh (fun m hm hpm j hj => ?_)
      have hm0 : 0 < m := by
        rcases Nat.eq_zero_or_pos m with rfl | h
        · exact absurd hpm (by show ¬ 0 = r + 1; omega)
        · exact h
      have := hH m hm0 hm j hj
      rw [hpm] at this
      exact this
  have q0 : rb_Q N h kk H 0 = rb_HB N h kk N 0 0 := by
    unfold rb_Q
    rw [rb_sum_d (a := 0) hp (fun m hm hne => if_neg (fun e => hne (rb_pc0 m (by have := rb_p6 hN; omega) e))), if_pos (by rfl), rb_sum_d (a := 0) (by omega) (fun j hj hne => by rw [h0 j (by omega) (by omega), Int32.zero_mul]), h00, Int32.one_mul]
    rfl
  have qN : rb_Q N h kk H N = H (2 ^ N - 1) kk := by
    unfold rb_Q
    rw [rb_sum_d (a := 2 ^ N - 1) (by omega) (fun m hm hne => if_neg (fun e => hne ((rb_pcN N (by omega) m (by have := rb_p6 hN; omega) hm).2 e))), if_pos (rb_pcF N (by omega)), Nat.sub_self, rb_sum_d (a := kk) (by omega) (fun j hj hne => by rw [rb_HB_0, if_neg hne, Int32.mul_zero]), rb_HB_0, if_pos rfl, Int32.mul_one]
  rw [← qN, ← q0]
  exact (all N (Nat.le_refl N)).symm
