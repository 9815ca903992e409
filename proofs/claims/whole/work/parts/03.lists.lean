/-! C: the placements as one list, and the sums over them backwards -/
def rb_nx (N m c : Nat) : Nat := if c < N then m + 2 ^ c else m
def rb_np (N p c : Nat) : Nat := if c < N then p + 1 else p
def rb_al (N : Nat) (B : Nat → Bool) (r m c : Nat) : Bool := if c < N then (!m.testBit c && B (6 * r + c)) else true
def rb_CB (N : Nat) (B : Nat → Bool) (w : Nat → Nat → Nat → Int32) (k : Nat) : Nat → Nat → Int32
  | 0, m => if rb_pc m = k then 1 else 0
  | d + 1, m => rb_sum (fun c => if rb_al N B (N - (d + 1)) m c then w (N - (d + 1)) m c * rb_CB N B w k d (rb_nx N m c) else 0) (N + 1)
theorem rb_CB_0 {N : Nat} {B : Nat → Bool} {w : Nat → Nat → Nat → Int32} {k m : Nat} : rb_CB N B w k 0 m = if rb_pc m = k then 1 else 0 := rfl
theorem rb_CB_s {N : Nat} {B : Nat → Bool} {w : Nat → Nat → Nat → Int32} {k d m : Nat} : rb_CB N B w k (d + 1) m = rb_sum (fun c => if rb_al N B (N - (d + 1)) m c then w (N - (d + 1)) m c * rb_CB N B w k d (rb_nx N m c) else 0) (N + 1) := rfl
theorem rb_nx_f {N : Nat} {B : Nat → Bool} {r m c : Nat} (hN : N ≤ 6) (hm : m < 2 ^ N) (h : rb_al N B r m c = true) : rb_nx N m c < 2 ^ N ∧ rb_pc (rb_nx N m c) = rb_np N (rb_pc m) c := by
  unfold rb_nx rb_np
  unfold rb_al at h
  by_cases hc : c < N
  · rw [if_pos hc] at h ⊢
    rw [if_pos hc]
    have hb : m.testBit c = false := by
      cases e : m.testBit c
      · rfl
      · rw [e] at h; exact absurd h (by simp)
    exact rb_mf hN hm hc hb
  · rw [if_neg hc, if_neg hc]
    exact ⟨hm, rfl⟩
theorem rb_CB_hi {N : Nat} {B : Nat → Bool} {w : Nat → Nat → Nat → Int32} {k : Nat} (hN : N ≤ 6) : ∀ (d m : Nat), m < 2 ^ N → k < rb_pc m → rb_CB N B w k d m = 0 := by
  intro d
  induction d with
  | zero => intro m _ h; rw [rb_CB_0, if_neg (by omega)]
  | succ d ih =>
    intro m hm h
    rw [rb_CB_s]
    refine rb_sum_z (fun c _ => ?_)
    by_cases ha : rb_al N B (N - (d + 1)) m c = true
    · rw [if_pos ha]
      obtain ⟨h1, h2⟩ := rb_nx_f hN hm ha
      rw [ih _ h1 (by rw [h2]; unfold rb_np; split <;> omega), Int32.mul_zero]
    · rw [if_neg ha]
theorem rb_CB_lo {N : Nat} {B : Nat → Bool} {w : Nat → Nat → Nat → Int32} {k : Nat} (hN : N ≤ 6) : ∀ (d m : Nat), m < 2 ^ N → rb_pc m + d < k → rb_CB N B w k d m = 0 := by
  intro d
  induction d with
  | zero => intro m _ h; rw [rb_CB_0, if_neg (by omega)]
  | succ d ih =>
    intro m hm h
    rw [rb_CB_s]
    refine rb_sum_z (fun c _ => ?_)
    by_cases ha : rb_al N B (N - (d + 1)) m c = true
    · rw [if_pos ha]
      obtain ⟨h1, h2⟩ := rb_nx_f hN hm ha
      rw [ih _ h1 (by rw [h2]; unfold rb_np; split <;> omega), Int32.mul_zero]
    · rw [if_neg ha]
/-- the pieces for the columns N + 1 - e .. N -/
def rb_cf (N : Nat) (F : Nat → List (List Nat)) : Nat → List (List Nat)
  | 0 => []
  | e + 1 => F (N - e) ++ rb_cf N F e
def rb_ok (N k : Nat) (B : Nat → Bool) (d t p c : Nat) : Bool := if c < N then (decide (p < k) && (!t.testBit c && B (6 * (N - (d + 1)) + c))) else decide (k ≤ p + d)
/-- all ways to go on for d rows -/
def rb_comp (N k : Nat) (B : Nat → Bool) : Nat → Nat → Nat → List (List Nat)
  | 0, _, _ => [[]]
  | d + 1, t, p => rb_cf N (fun c => if rb_ok N k B d t p c then (rb_comp N k B d (rb_nx N t c) (rb_np N p c)).map (fun s => c :: s) else []) (N + 1)
def rb_pi (N k : Nat) (B : Nat → Bool) (d t p c : Nat) : List (List Nat) := if rb_ok N k B d t p c then (rb_comp N k B d (rb_nx N t c) (rb_np N p c)).map (fun s => c :: s) else []
theorem rb_comp_s {N k : Nat} {B : Nat → Bool} {d t p : Nat} : rb_comp N k B (d + 1) t p = rb_cf N (rb_pi N k B d t p) (N + 1) := rfl
theorem rb_cf_s {N : Nat} {F : Nat → List (List Nat)} {e : Nat} : rb_cf N F (e + 1) = F (N - e) ++ rb_cf N F e := rfl
def rb_ls (f : List Nat → Int32) : List (List Nat) → Int32
  | [] => 0
  | p :: L => f p + rb_ls f L
theorem rb_ls_app (f : List Nat → Int32) (L M : List (List Nat)) : rb_ls f (L ++ M) = rb_ls f L + rb_ls f M := by
  induction L with
  | nil => exact (Int32.zero_add _).symm
  | cons p L ih => show f p + rb_ls f (L ++ M) = f p + rb_ls f L + rb_ls f M; rw [ih, Int32.add_assoc]
theorem rb_ls_map (f : List Nat → Int32) (g : List Nat → List Nat) (L : List (List Nat)) : rb_ls f (L.map g) = rb_ls (fun p => f (g p)) L := by
  induction L with
  | nil => rfl
  | cons p L ih => show f (g p) + rb_ls f (L.map g) = f (g p) + rb_ls (fun p => f (g p)) L; rw [ih]
theorem rb_ls_mul (f : List Nat → Int32) (x : Int32) (L : List (List Nat)) : rb_ls (fun p => x * f p) L = x * rb_ls f L := by
  induction L with
  | nil => exact (Int32.mul_zero).symm
  | cons p L ih => show x * f p + rb_ls (fun p => x * f p) L = x * (f p + rb_ls f L); rw [ih, Int32.mul_add]
theorem rb_ls_c {f g : List Nat → Int32} {L : List (List Nat)} (h : ∀ p, p ∈ L → f p = g p) : rb_ls f L = rb_ls g L := by
  induction L with
  | nil => rfl
  | cons p L ih =>
    show f p + rb_ls f L = g p + rb_ls g L
    rw [h p (List.mem_cons_self ..), ih (fun q hq => h q (List.mem_cons_of_mem _ hq))]
theorem rb_ls_cf (f : List Nat → Int32) (N : Nat) (F : Nat → List (List Nat)) : ∀ e, e ≤ N + 1 → rb_ls f (rb_cf N F e) = rb_sum (fun i => rb_ls f (F (N + 1 - e + i))) e := by
  intro e
  induction e with
  | zero => intro _; rfl
  | succ e ih =>
    intro h
    rw [rb_cf_s, rb_ls_app, ih (by omega), rb_sum_f]
    have e1 : N + 1 - (e + 1) + 0 = N - e := by omega
    rw [e1]
    congr 1
    exact rb_sum_c (fun i _ => by rw [show N + 1 - (e + 1) + (i + 1) = N + 1 - e + i by omega])
theorem rb_ls_len (L : List (List Nat)) : rb_ls (fun _ => 1) L = nI L.length := by
  induction L with
  | nil => rfl
  | cons p L ih => show 1 + rb_ls (fun _ => 1) L = nI (L.length + 1); rw [ih, Int32.add_comm, nI_1]
def rb_PW (N : Nat) (w : Nat → Nat → Nat → Int32) : Nat → Nat → List Nat → Int32
  | _, _, [] => 1
  | r, m, c :: s => w r m c * rb_PW N w (r + 1) (rb_nx N m c) s
theorem rb_PW_c {N : Nat} {w : Nat → Nat → Nat → Int32} {r m c : Nat} {s : List Nat} : rb_PW N w r m (c :: s) = w r m c * rb_PW N w (r + 1) (rb_nx N m c) s := rfl
/-- the sum over the list is the sum backwards: what is pruned counts nothing -/
theorem rb_LS {N k : Nat} {B : Nat → Bool} {w : Nat → Nat → Nat → Int32} (hN : N ≤ 6) : ∀ (d t p : Nat), d ≤ N → t < 2 ^ N → rb_pc t = p → p ≤ k → k ≤ p + d →
    rb_ls (rb_PW N w (N - d) t) (rb_comp N k B d t p) = rb_CB N B w k d t := by
  intro d
  induction d with
  | zero =>
    intro t p _ _ hp h1 h2
    rw [rb_CB_0, if_pos (by omega)]
    rfl
  | succ d ih =>
    intro t p hd ht hp h1 h2
    rw [rb_comp_s, rb_ls_cf _ _ _ _ (Nat.le_refl _), rb_CB_s]
    refine rb_sum_c (fun c hc => ?_)
    rw [show N + 1 - (N + 1) + c = c by omega]
    have e1 : N - (d + 1) + 1 = N - d := by omega
    have key : rb_al N B (N - (d + 1)) t c = true → p ≤ k → rb_np N p c ≤ k → k ≤ rb_np N p c + d →
        rb_ls (rb_PW N w (N - (d + 1)) t) ((rb_comp N k B d (rb_nx N t c) (rb_np N p c)).map (fun s => c :: s)) = w (N - (d + 1)) t c * rb_CB N B w k d (rb_nx N t c) := by
      intro ha _ ha1 ha2
      obtain ⟨n1, n2⟩ := rb_nx_f hN ht ha
      rw [rb_ls_map]
      have : (fun s => rb_PW N w (N - (d + 1)) t (c :: s)) = (fun s => w (N - (d + 1)) t c * rb_PW N w (N - d) (rb_nx N t c) s) := by
        funext s
        rw [rb_PW_c, e1]
      rw [this, rb_ls_mul, ih (rb_nx N t c) (rb_np N p c) (by omega) n1 (by rw [n2, hp]) ha1 ha2]
    unfold rb_pi
    by_cases hcN : c < N
    · have eok : rb_ok N k B d t p c = (decide (p < k) && (!t.testBit c && B (6 * (N - (d + 1)) + c))) := if_pos hcN
      have eal : rb_al N B (N - (d + 1)) t c = (!t.testBit c && B (6 * (N - (d + 1)) + c)) := if_pos hcN
      have enp : rb_np N p c = p + 1 := if_pos hcN
      by_cases ha : rb_al N B (N - (d + 1)) t c = true
      · rw [if_pos ha]
        by_cases hpk : p < k
        · rw [if_pos (by rw [eok, ← eal, ha, decide_eq_true hpk]; rfl)]
          exact key ha h1 (by omega) (by omega)
        · rw [if_neg (by rw [eok, decide_eq_false hpk]; simp)]
          obtain ⟨n1, n2⟩ := rb_nx_f hN ht ha
          rw [rb_CB_hi hN d _ n1 (by rw [n2, hp, enp]; omega), Int32.mul_zero]
          rfl
      · rw [if_neg ha, if_neg (by rw [eok, ← eal]; simp at ha; rw [ha]; simp)]
        rfl
    · have eok : rb_ok N k B d t p c = decide (k ≤ p + d) := if_neg hcN
      have ha : rb_al N B (N - (d + 1)) t c = true := if_neg hcN
      have enp : rb_np N p c = p := if_neg hcN
      have enx : rb_nx N t c = t := if_neg hcN
      rw [if_pos ha]
      by_cases hk : k ≤ p + d
      · rw [if_pos (by rw [eok, decide_eq_true hk])]
        exact key ha h1 (by omega) (by omega)
      · rw [if_neg (by rw [eok, decide_eq_false hk]; simp), enx, rb_CB_lo hN d t ht (by omega), Int32.mul_zero]
        rfl
theorem rb_PW_1 {N : Nat} : ∀ (s : List Nat) (r m : Nat), rb_PW N (fun _ _ _ => 1) r m s = 1 := by
  intro s
  induction s with
  | nil => intro r m; rfl
  | cons c s ih => intro r m; rw [rb_PW_c, ih, Int32.one_mul]
theorem rb_len {N k : Nat} {B : Nat → Bool} {d t p : Nat} (hN : N ≤ 6) (hd : d ≤ N) (ht : t < 2 ^ N) (hp : rb_pc t = p) (h1 : p ≤ k) (h2 : k ≤ p + d) :
    rb_CB N B (fun _ _ _ => 1) k d t = nI (rb_comp N k B d t p).length := by
  rw [← rb_LS hN d t p hd ht hp h1 h2, ← rb_ls_len]
  exact rb_ls_c (fun s _ => rb_PW_1 s _ _)
theorem rb_cf_len {N b : Nat} {F : Nat → List (List Nat)} (h : ∀ c, (F c).length ≤ b) : ∀ e, (rb_cf N F e).length ≤ e * b := by
  intro e
  induction e with
  | zero => show 0 ≤ 0 * b; omega
  | succ e ih =>
    rw [rb_cf_s, List.length_append, Nat.succ_mul]
    have := h (N - e)
    omega
theorem rb_comp_len {N k : Nat} {B : Nat → Bool} (hN : N ≤ 6) : ∀ (d t p : Nat), (rb_comp N k B d t p).length ≤ 7 ^ d := by
  intro d
  induction d with
  | zero => intro t p; exact Nat.le_refl _
  | succ d ih =>
    intro t p
    rw [rb_comp_s]
    have h1 : ∀ c, (rb_pi N k B d t p c).length ≤ 7 ^ d := by
      intro c
      unfold rb_pi
      split
      · rw [List.length_map]; exact ih _ _
      · exact Nat.zero_le _
    have h2 := rb_cf_len (N := N) h1 (N + 1)
    have h3 : (N + 1) * 7 ^ d ≤ 7 * 7 ^ d := Nat.mul_le_mul_right _ (by omega)
    rw [Nat.pow_succ]
    omega
theorem rb_comp_lt {N k : Nat} {B : Nat → Bool} {d t p : Nat} (hN : N ≤ 6) (hd : d ≤ N) : (rb_comp N k B d t p).length < 2 ^ 31 := by
  have h1 := rb_comp_len (k := k) (B := B) hN d t p
  have h2 : 7 ^ d ≤ 7 ^ 6 := Nat.pow_le_pow_right (by decide) (by omega)
  have h3 : 7 ^ 6 < 2 ^ 31 := by decide
  omega
/-- each row of the list has N - (rows before) columns, each at most N -/
theorem rb_cf_mem {N : Nat} {F : Nat → List (List Nat)} {s : List Nat} : ∀ e, s ∈ rb_cf N F e → ∃ c, c ≤ N ∧ s ∈ F c := by
  intro e
  induction e with
  | zero => intro h; exact absurd h (List.not_mem_nil)
  | succ e ih =>
    intro h
    rw [rb_cf_s, List.mem_append] at h
    rcases h with h | h
    · exact ⟨N - e, by omega, h⟩
    · exact ih h
theorem rb_pi_mem {N k : Nat} {B : Nat → Bool} {d t p c : Nat} {s : List Nat} (h : s ∈ rb_pi N k B d t p c) : rb_ok N k B d t p c = true ∧ ∃ s', s = c :: s' ∧ s' ∈ rb_comp N k B d (rb_nx N t c) (rb_np N p c) := by
  unfold rb_pi at h
  split at h
  · next ho =>
    rw [List.mem_map] at h
    obtain ⟨s', h1, h2⟩ := h
    exact ⟨ho, s', h2.symm, h1⟩
  · exact absurd h (List.not_mem_nil)
theorem rb_comp_mem {N k : Nat} {B : Nat → Bool} : ∀ (d t p : Nat) (s : List Nat), s ∈ rb_comp N k B d t p → s.length = d ∧ ∀ c, c ∈ s → c ≤ N := by
  intro d
  induction d with
  | zero =>
    intro t p s h
    rw [show s = [] from List.mem_singleton.mp h]
    exact ⟨rfl, fun c hc => absurd hc (List.not_mem_nil)⟩
  | succ d ih =>
    intro t p s h
    rw [rb_comp_s] at h
    obtain ⟨c, hc, h⟩ := rb_cf_mem _ h
    obtain ⟨_, s', rfl, h'⟩ := rb_pi_mem h
    obtain ⟨a, b⟩ := ih _ _ _ h'
    refine ⟨by rw [List.length_cons, a], fun x hx => ?_⟩
    rcases List.mem_cons.mp hx with rfl | hx
    · exact hc
    · exact b x hx
