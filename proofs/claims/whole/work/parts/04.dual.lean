/-! D: sums forwards over masks against sums backwards -/
/-- what a row brings to the mask m -/
def rb_row (N : Nat) (B : Nat → Bool) (w : Nat → Nat → Nat → Int32) (r : Nat) (v : Nat → Int32) (m : Nat) : Int32 :=
  rb_sum (fun c => if m.testBit c && B (6 * r + c) then v (m - 2 ^ c) * w r (m - 2 ^ c) c else 0) N
theorem rb_dual {N k d : Nat} {B : Nat → Bool} {w : Nat → Nat → Nat → Int32} {v v' : Nat → Int32} (hw : ∀ m, w (N - (d + 1)) m N = 1)
    (hv : ∀ m, m < 2 ^ N → v' m * rb_CB N B w k d m = v m * rb_CB N B w k d m + rb_row N B w (N - (d + 1)) v m * rb_CB N B w k d m) :
    rb_sum (fun m => v m * rb_CB N B w k (d + 1) m) (2 ^ N) = rb_sum (fun m => v' m * rb_CB N B w k d m) (2 ^ N) := by
  have hr : rb_sum (fun m => v' m * rb_CB N B w k d m) (2 ^ N) = rb_sum (fun m => v m * rb_CB N B w k d m) (2 ^ N) + rb_sum (fun m => rb_row N B w (N - (d + 1)) v m * rb_CB N B w k d m) (2 ^ N) := by
    rw [← rb_sum_a]
    exact rb_sum_c hv
  have hl : rb_sum (fun m => v m * rb_CB N B w k (d + 1) m) (2 ^ N) = rb_sum (fun m => v m * rb_CB N B w k d m) (2 ^ N) + rb_sum (fun m => rb_sum (fun c => v m * (if rb_al N B (N - (d + 1)) m c then w (N - (d + 1)) m c * rb_CB N B w k d (rb_nx N m c) else 0)) N) (2 ^ N) := by
    rw [← rb_sum_a]
    refine rb_sum_c (fun m _ => ?_)
    rw [rb_CB_s, rb_sum_s, rb_sum_m, if_pos (show rb_al N B (N - (d + 1)) m N = true from if_neg (Nat.lt_irrefl N)), hw, show rb_nx N m N = m from if_neg (Nat.lt_irrefl N), Int32.one_mul, Int32.mul_add, Int32.add_comm]
  rw [hl, hr]
  congr 1
  have hq : rb_sum (fun m => rb_row N B w (N - (d + 1)) v m * rb_CB N B w k d m) (2 ^ N) = rb_sum (fun m => rb_sum (fun c => (if m.testBit c && B (6 * (N - (d + 1)) + c) then v (m - 2 ^ c) * w (N - (d + 1)) (m - 2 ^ c) c else 0) * rb_CB N B w k d m) N) (2 ^ N) :=
    rb_sum_c (fun m _ => (rb_sum_mr _ _ _).symm)
  rw [hq, rb_sum_w _ N (2 ^ N), rb_sum_w _ N (2 ^ N)]
  refine rb_sum_c (fun c hc => ?_)
  cases hb : B (6 * (N - (d + 1)) + c)
  · rw [rb_sum_z (fun m _ => ?_), rb_sum_z (fun m _ => ?_)]
    · rw [Bool.and_false, if_neg (by simp), Int32.zero_mul]
    · rw [if_neg (by unfold rb_al; rw [if_pos hc, hb]; simp), Int32.mul_zero]
  · have e1 : rb_sum (fun m => v m * (if rb_al N B (N - (d + 1)) m c then w (N - (d + 1)) m c * rb_CB N B w k d (rb_nx N m c) else 0)) (2 ^ N) = rb_sum (fun m => if m.testBit c then 0 else (fun a b => v a * w (N - (d + 1)) a c * rb_CB N B w k d b) m (m + 2 ^ c)) (2 ^ N) :=
      rb_sum_c (fun m _ => by
        have ea : rb_al N B (N - (d + 1)) m c = !m.testBit c := by unfold rb_al; rw [if_pos hc, hb, Bool.and_true]
        rw [ea, show rb_nx N m c = m + 2 ^ c from if_pos hc]
        cases m.testBit c
        · show v m * (w (N - (d + 1)) m c * rb_CB N B w k d (m + 2 ^ c)) = v m * w (N - (d + 1)) m c * rb_CB N B w k d (m + 2 ^ c)
          rw [Int32.mul_assoc]
        · exact Int32.mul_zero)
    have e2 : rb_sum (fun m => (if m.testBit c && true then v (m - 2 ^ c) * w (N - (d + 1)) (m - 2 ^ c) c else 0) * rb_CB N B w k d m) (2 ^ N) = rb_sum (fun m => if m.testBit c then (fun a b => v a * w (N - (d + 1)) a c * rb_CB N B w k d b) (m - 2 ^ c) m else 0) (2 ^ N) :=
      rb_sum_c (fun m _ => by
        cases m.testBit c
        · exact Int32.zero_mul
        · rfl)
    rw [e1, e2]
    exact rb_shift N c hc (fun a b => v a * w (N - (d + 1)) a c * rb_CB N B w k d b)
/-- the start: one placement so far -/
theorem rb_start {N k d u : Nat} {B : Nat → Bool} {w : Nat → Nat → Nat → Int32} {v : Nat → Int32} (hu : u < 2 ^ N) (h1 : v u = 1) (h0 : ∀ m, m < 2 ^ N → m ≠ u → v m = 0) :
    rb_sum (fun m => v m * rb_CB N B w k d m) (2 ^ N) = rb_CB N B w k d u := by
  rw [rb_sum_d hu (fun m hm hne => by rw [h0 m hm hne, Int32.zero_mul]), h1, Int32.one_mul]
/-- the end: the total of k -/
theorem rb_total {N k : Nat} {B : Nat → Bool} {w : Nat → Nat → Nat → Int32} {v : Nat → Int32} :
    rb_sum (fun m => v m * rb_CB N B w k 0 m) (2 ^ N) = rb_sum (fun m => if rb_pc m = k then v m else 0) (2 ^ N) := by
  refine rb_sum_c (fun m _ => ?_)
  rw [rb_CB_0]
  split
  · exact Int32.mul_one _
  · exact Int32.mul_zero
/-! a rook forced, a row left out -/
def rb_w1 : Nat → Nat → Nat → Int32 := fun _ _ _ => 1
def rb_wf (r0 c0 : Nat) : Nat → Nat → Nat → Int32 := fun r _ c => if r = r0 then (if c = c0 then 1 else 0) else 1
def rb_ws (N r0 : Nat) : Nat → Nat → Nat → Int32 := fun r _ c => if r = r0 then (if c = N then 1 else 0) else 1
theorem rb_CB_e {N k : Nat} {B : Nat → Bool} {w w' : Nat → Nat → Nat → Int32} : ∀ (d : Nat), (∀ r m c, N - d ≤ r → w r m c = w' r m c) → ∀ m, rb_CB N B w k d m = rb_CB N B w' k d m := by
  intro d
  induction d with
  | zero => intro _ m; rfl
  | succ d ih =>
    intro h m
    rw [rb_CB_s, rb_CB_s]
    refine rb_sum_c (fun c _ => ?_)
    rw [h _ _ _ (Nat.le_refl _), ih (fun r m c hr => h r m c (by omega))]
theorem rb_tb : rb_chk3 64 6 6 (fun m c e => decide (m.testBit c = false → ((m + 2 ^ c).testBit e = (m.testBit e || decide (c = e))))) = true := by decide +kernel
theorem rb_tbN {N m c e : Nat} (hN : N ≤ 6) (hm : m < 2 ^ N) (hc : c < N) (he : e < N) (h : m.testBit c = false) : (m + 2 ^ c).testBit e = (m.testBit e || decide (c = e)) :=
  of_decide_eq_true (rb_chk3_e rb_tb (i := m) (j := c) (l := e) (by have := rb_p6 hN; omega) (by omega) (by omega)) h
theorem rb_forced {N k r0 c0 : Nat} {B : Nat → Bool} (hN : N ≤ 6) (hr0 : r0 < N) (hc0 : c0 < N) (hB : B (6 * r0 + c0) = true) : ∀ (d m : Nat), d ≤ N → N - d ≤ r0 → m < 2 ^ N →
    rb_CB N B (rb_wf r0 c0) k d m = if m.testBit c0 then 0 else rb_CB N B (rb_ws N r0) k d (m + 2 ^ c0) := by
  intro d
  induction d with
  | zero => intro m _ h; omega
  | succ d ih =>
    intro m hd hr hm
    rw [rb_CB_s]
    by_cases hrr : N - (d + 1) = r0
    · -- the row itself
      have hf : ∀ x, rb_CB N B (rb_wf r0 c0) k d x = rb_CB N B rb_w1 k d x := rb_CB_e d (fun r m c hr' => if_neg (by omega))
      have hs : ∀ x, rb_CB N B (rb_ws N r0) k d x = rb_CB N B rb_w1 k d x := rb_CB_e d (fun r m c hr' => if_neg (by omega))
      have h1 : rb_sum (fun c => if rb_al N B (N - (d + 1)) m c then rb_wf r0 c0 (N - (d + 1)) m c * rb_CB N B (rb_wf r0 c0) k d (rb_nx N m c) else 0) (N + 1) = if rb_al N B (N - (d + 1)) m c0 then rb_wf r0 c0 (N - (d + 1)) m c0 * rb_CB N B (rb_wf r0 c0) k d (rb_nx N m c0) else 0 := by
        refine rb_sum_d (a := c0) (by omega) (fun i _ hi => ?_)
        rw [show rb_wf r0 c0 (N - (d + 1)) m i = 0 from by unfold rb_wf; rw [if_pos hrr, if_neg hi], Int32.zero_mul]
        exact ite_self _
      rw [h1, hf, show rb_wf r0 c0 (N - (d + 1)) m c0 = 1 from by unfold rb_wf; rw [if_pos hrr, if_pos rfl], Int32.one_mul, show rb_al N B (N - (d + 1)) m c0 = !m.testBit c0 from by unfold rb_al; rw [if_pos hc0, hrr, hB, Bool.and_true], show rb_nx N m c0 = m + 2 ^ c0 from if_pos hc0]
      cases m.testBit c0
      · rw [if_pos (by rfl), if_neg (by decide), rb_CB_s]
        have h2 : rb_sum (fun c => if rb_al N B (N - (d + 1)) (m + 2 ^ c0) c then rb_ws N r0 (N - (d + 1)) (m + 2 ^ c0) c * rb_CB N B (rb_ws N r0) k d (rb_nx N (m + 2 ^ c0) c) else 0) (N + 1) = if rb_al N B (N - (d + 1)) (m + 2 ^ c0) N then rb_ws N r0 (N - (d + 1)) (m + 2 ^ c0) N * rb_CB N B (rb_ws N r0) k d (rb_nx N (m + 2 ^ c0) N) else 0 := by
          refine rb_sum_d (a := N) (by omega) (fun i _ hi => ?_)
          rw [show rb_ws N r0 (N - (d + 1)) (m + 2 ^ c0) i = 0 from by unfold rb_ws; rw [if_pos hrr, if_neg hi], Int32.zero_mul]
          exact ite_self _
        rw [h2, if_pos (show rb_al N B (N - (d + 1)) (m + 2 ^ c0) N = true from if_neg (Nat.lt_irrefl N)), show rb_ws N r0 (N - (d + 1)) (m + 2 ^ c0) N = 1 from by unfold rb_ws; rw [if_pos hrr, if_pos rfl], Int32.one_mul, hs, show rb_nx N (m + 2 ^ c0) N = m + 2 ^ c0 from if_neg (Nat.lt_irrefl N)]
      · rw [if_neg (by decide), if_pos rfl]
    · have hw1 : ∀ x c, rb_wf r0 c0 (N - (d + 1)) x c = 1 := fun x c => if_neg hrr
      have hw2 : ∀ x c, rb_ws N r0 (N - (d + 1)) x c = 1 := fun x c => if_neg hrr
      have IH := fun x hx => ih x (by omega) (by omega) hx
      cases hb : m.testBit c0
      · rw [if_neg (by decide), rb_CB_s]
        refine rb_sum_c (fun c hc => ?_)
        rw [hw1, hw2, Int32.one_mul, Int32.one_mul]
        by_cases hcN : c < N
        · have ea : rb_al N B (N - (d + 1)) m c = (!m.testBit c && B (6 * (N - (d + 1)) + c)) := if_pos hcN
          have ea' : rb_al N B (N - (d + 1)) (m + 2 ^ c0) c = (!(m + 2 ^ c0).testBit c && B (6 * (N - (d + 1)) + c)) := if_pos hcN
          rw [rb_tbN hN hm hc0 hcN hb] at ea'
          rw [show rb_nx N m c = m + 2 ^ c from if_pos hcN, show rb_nx N (m + 2 ^ c0) c = m + 2 ^ c0 + 2 ^ c from if_pos hcN, ea, ea']
          cases hbc : m.testBit c
          · cases hB2 : B (6 * (N - (d + 1)) + c)
            · rw [if_neg (by simp), if_neg (by simp)]
            · rw [if_pos (by simp)]
              have hm' := (rb_mf hN hm hcN hbc).1
              rw [IH _ hm', rb_tbN hN hm hcN hc0 hbc, hb]
              by_cases hcc : c0 = c
              · subst hcc
                rw [if_pos (by simp), if_neg (by simp)]
              · rw [if_neg (by simp; omega), if_pos (by simp; omega), show m + 2 ^ c + 2 ^ c0 = m + 2 ^ c0 + 2 ^ c by omega]
          · rw [if_neg (by simp), if_neg (by simp)]
        · have ea : ∀ x, rb_al N B (N - (d + 1)) x c = true := fun x => if_neg hcN
          have en : ∀ x, rb_nx N x c = x := fun x => if_neg hcN
          rw [if_pos (ea _), if_pos (ea _), en, en, IH m hm, hb, if_neg (by decide)]
      · rw [if_pos rfl]
        refine rb_sum_z (fun c _ => ?_)
        by_cases ha : rb_al N B (N - (d + 1)) m c = true
        · rw [if_pos ha, IH _ (rb_nx_f hN hm ha).1]
          have : (rb_nx N m c).testBit c0 = true := by
            by_cases hcN : c < N
            · have hbc : m.testBit c = false := by
                unfold rb_al at ha
                rw [if_pos hcN] at ha
                cases e : m.testBit c
                · rfl
                · rw [e] at ha; exact absurd ha (by simp)
              rw [show rb_nx N m c = m + 2 ^ c from if_pos hcN, rb_tbN hN hm hcN hc0 hbc, hb]
              rfl
            · rw [show rb_nx N m c = m from if_neg hcN, hb]
          rw [this, if_pos rfl, Int32.mul_zero]
        · rw [if_neg ha]
/-- where the cell is not on the board none goes through it -/
theorem rb_forced0 {N k r0 c0 : Nat} {B : Nat → Bool} (hr0 : r0 < N) (hc0 : c0 < N) (hB : B (6 * r0 + c0) = false) : ∀ (d m : Nat), d ≤ N → N - d ≤ r0 → rb_CB N B (rb_wf r0 c0) k d m = 0 := by
  intro d
  induction d with
  | zero => intro m _ h; omega
  | succ d ih =>
    intro m hd hr
    rw [rb_CB_s]
    refine rb_sum_z (fun c _ => ?_)
    by_cases hrr : N - (d + 1) = r0
    · by_cases hcc : c = c0
      · subst hcc
        rw [if_neg (by unfold rb_al; rw [if_pos hc0, hrr, hB]; simp)]
      · rw [show rb_wf r0 c0 (N - (d + 1)) m c = 0 from by unfold rb_wf; rw [if_pos hrr, if_neg hcc], Int32.zero_mul]
        exact ite_self _
    · rw [ih _ (by omega) (by omega), Int32.mul_zero]
      exact ite_self _
