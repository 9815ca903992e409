/-! G: the search as a stack; what is still to come -/
def rb_tk (N : Nat) : List Nat → Nat
  | [] => 0
  | c :: st => rb_nx N (rb_tk N st) c
def rb_pl (N : Nat) : List Nat → Nat
  | [] => 0
  | c :: st => rb_np N (rb_pl N st) c
def rb_AR (a : Nat → Int32) : List Nat → Prop
  | [] => True
  | c :: st => a st.length = nI c ∧ rb_AR a st
def rb_VS (N : Nat) : List Nat → Prop
  | [] => True
  | c :: st => c ≤ N ∧ (c < N → (rb_tk N st).testBit c = false) ∧ rb_VS N st
def rb_rm (N k : Nat) (B : Nat → Bool) (st : List Nat) (f : Nat) : List (List Nat) :=
  (rb_cf N (rb_pi N k B (N - st.length - 1) (rb_tk N st) (rb_pl N st)) (N + 1 - f)).map (fun s => st.reverse ++ s)
def rb_all (N k : Nat) (B : Nat → Bool) (st : List Nat) : List (List Nat) :=
  (rb_comp N k B (N - st.length) (rb_tk N st) (rb_pl N st)).map (fun s => st.reverse ++ s)
def rb_up (N k : Nat) (B : Nat → Bool) : List Nat → List (List Nat)
  | [] => []
  | c :: st => rb_rm N k B st (c + 1) ++ rb_up N k B st
theorem rb_rm_0 {N k : Nat} {B : Nat → Bool} {st : List Nat} (h : st.length < N) : rb_rm N k B st 0 = rb_all N k B st := by
  unfold rb_rm rb_all
  obtain ⟨d, hd⟩ : ∃ d, N - st.length = d + 1 := ⟨N - st.length - 1, by omega⟩
  rw [hd, Nat.add_sub_cancel, rb_comp_s]
  rfl
theorem rb_all_N {N k : Nat} {B : Nat → Bool} {st : List Nat} (h : st.length = N) : rb_all N k B st = [st.reverse] := by
  unfold rb_all
  rw [h, Nat.sub_self]
  show [st.reverse ++ []] = _
  rw [List.append_nil]
theorem rb_rm_end {N k : Nat} {B : Nat → Bool} {st : List Nat} {f : Nat} (h : N < f) : rb_rm N k B st f = [] := by
  unfold rb_rm
  rw [show N + 1 - f = 0 by omega]
  rfl
theorem rb_rm_skip {N k : Nat} {B : Nat → Bool} {st : List Nat} {f : Nat} (hf : f ≤ N) (h : rb_ok N k B (N - st.length - 1) (rb_tk N st) (rb_pl N st) f = false) : rb_rm N k B st f = rb_rm N k B st (f + 1) := by
  unfold rb_rm
  rw [show N + 1 - f = (N - f) + 1 by omega, rb_cf_s, show N - (N - f) = f by omega, show N + 1 - (f + 1) = N - f by omega]
  rw [show rb_pi N k B (N - st.length - 1) (rb_tk N st) (rb_pl N st) f = [] from if_neg (by rw [h]; decide)]
  rfl
theorem rb_rm_take {N k : Nat} {B : Nat → Bool} {st : List Nat} {f : Nat} (hf : f ≤ N) (h : rb_ok N k B (N - st.length - 1) (rb_tk N st) (rb_pl N st) f = true) :
    rb_rm N k B st f ++ rb_up N k B st = rb_all N k B (f :: st) ++ rb_up N k B (f :: st) := by
  have e : rb_rm N k B st f = rb_all N k B (f :: st) ++ rb_rm N k B st (f + 1) := by
    unfold rb_rm rb_all
    rw [show N + 1 - f = (N - f) + 1 by omega, rb_cf_s, show N - (N - f) = f by omega, show N + 1 - (f + 1) = N - f by omega, List.map_append]
    rw [show rb_pi N k B (N - st.length - 1) (rb_tk N st) (rb_pl N st) f = _ from if_pos h, List.map_map]
    congr 1
    rw [List.length_cons, show N - (st.length + 1) = N - st.length - 1 by omega]
    refine List.map_congr_left (fun s _ => ?_)
    show st.reverse ++ f :: s = (f :: st).reverse ++ s
    rw [List.reverse_cons, List.append_assoc]
    rfl
  rw [e, List.append_assoc]
  rfl
theorem rb_skips {N k : Nat} {B : Nat → Bool} {st : List Nat} {f : Nat} : ∀ (j : Nat), f + j ≤ N + 1 → (∀ i, i < j → rb_ok N k B (N - st.length - 1) (rb_tk N st) (rb_pl N st) (f + i) = false) → rb_rm N k B st f = rb_rm N k B st (f + j) := by
  intro j
  induction j with
  | zero => intro _ _; rfl
  | succ j ih =>
    intro h1 h2
    rw [ih (by omega) (fun i hi => h2 i (by omega)), rb_rm_skip (by omega) (h2 j (by omega))]
    rfl
/-! stacks and the cursor's fields -/
theorem rb_AR_u {a : Nat → Int32} {x : Int32} : ∀ (st : List Nat) (n : Nat), st.length ≤ n → rb_AR a st → rb_AR (upd a n x) st := by
  intro st
  induction st with
  | nil => intro n _ _; exact True.intro
  | cons c st ih =>
    intro n hn h
    rw [List.length_cons] at hn
    exact ⟨by rw [pk_un (by omega)]; exact h.1, ih n (by omega) h.2⟩
theorem rb_AR_put {a : Nat → Int32} {st : List Nat} {c : Nat} (h : rb_AR a st) : rb_AR (upd a st.length (nI c)) (c :: st) :=
  ⟨pk_us, rb_AR_u st _ (Nat.le_refl _) h⟩
theorem rb_AR_get {a : Nat → Int32} : ∀ (st : List Nat), rb_AR a st → ∀ i, i < st.length → a i = nI (st.reverse.getD i 0) := by
  intro st
  induction st with
  | nil => intro _ i hi; exact absurd hi (Nat.not_lt_zero _)
  | cons c st ih =>
    intro h i hi
    rw [List.reverse_cons, List.getD_eq_getElem?_getD]
    rw [List.length_cons] at hi
    by_cases e : i = st.length
    · subst e
      rw [List.getElem?_append_right (by rw [List.length_reverse]; exact Nat.le_refl _), List.length_reverse, Nat.sub_self]
      exact h.1
    · rw [List.getElem?_append_left (by rw [List.length_reverse]; omega), ← List.getD_eq_getElem?_getD]
      exact ih h.2 i (by omega)
theorem rb_VS_f {N : Nat} (hN : N ≤ 6) : ∀ (st : List Nat), rb_VS N st → rb_tk N st < 2 ^ N ∧ rb_pc (rb_tk N st) = rb_pl N st ∧ rb_pl N st ≤ st.length := by
  intro st
  induction st with
  | nil => intro _; exact ⟨Nat.two_pow_pos N, (by show rb_pc 0 = 0; decide), Nat.le_refl _⟩
  | cons c st ih =>
    intro h
    obtain ⟨h1, h2, h3⟩ := h
    obtain ⟨i1, i2, i3⟩ := ih h3
    show rb_nx N (rb_tk N st) c < 2 ^ N ∧ rb_pc (rb_nx N (rb_tk N st) c) = rb_np N (rb_pl N st) c ∧ rb_np N (rb_pl N st) c ≤ (c :: st).length
    rw [List.length_cons]
    unfold rb_nx rb_np
    by_cases hc : c < N
    · rw [if_pos hc, if_pos hc]
      obtain ⟨m1, m2⟩ := rb_mf hN i1 hc (h2 hc)
      exact ⟨m1, by omega, by omega⟩
    · rw [if_neg hc, if_neg hc]
      exact ⟨i1, i2, by omega⟩
/-! the measure of the search -/
def rb_T (N : Nat) : Nat → Nat
  | 0 => 0
  | j + 1 => (N + 1) * (rb_T N j + 2)
def rb_um (N : Nat) : List Nat → Nat
  | [] => 0
  | c :: st => 1 + (N - c) * (rb_T N (N - st.length - 1) + 2) + rb_um N st
def rb_mu (N : Nat) (st : List Nat) (f : Nat) : Nat := if st.length = N then rb_um N st else (N + 1 - f) * (rb_T N (N - st.length - 1) + 2) + rb_um N st
theorem rb_mu_put {N : Nat} {st : List Nat} {f c : Nat} (h : st.length < N) (hc : c ≤ N) (hf : f ≤ c) : rb_mu N (c :: st) 0 < rb_mu N st f := by
  have a : rb_mu N st f = (N + 1 - f) * (rb_T N (N - st.length - 1) + 2) + rb_um N st := if_neg (by omega)
  have b : (N + 1 - c) * (rb_T N (N - st.length - 1) + 2) ≤ (N + 1 - f) * (rb_T N (N - st.length - 1) + 2) := Nat.mul_le_mul_right _ (by omega)
  have c1 : (N + 1 - c) * (rb_T N (N - st.length - 1) + 2) = (N - c) * (rb_T N (N - st.length - 1) + 2) + (rb_T N (N - st.length - 1) + 2) := by
    rw [show N + 1 - c = (N - c) + 1 by omega, Nat.succ_mul]
  have u : rb_um N (c :: st) = 1 + (N - c) * (rb_T N (N - st.length - 1) + 2) + rb_um N st := rfl
  have e : rb_mu N (c :: st) 0 ≤ rb_T N (N - st.length - 1) + rb_um N (c :: st) := by
    unfold rb_mu
    rw [List.length_cons]
    split
    · omega
    · obtain ⟨d, hd⟩ : ∃ d, N - st.length - 1 = d + 1 := ⟨N - st.length - 2, by omega⟩
      rw [hd, show N - (st.length + 1) - 1 = d by omega]
      exact Nat.le_refl _
  omega
theorem rb_mu_back {N : Nat} {st : List Nat} {c f : Nat} (h : st.length < N) : rb_mu N st (c + 1) < rb_mu N (c :: st) f := by
  have a : rb_mu N st (c + 1) = (N + 1 - (c + 1)) * (rb_T N (N - st.length - 1) + 2) + rb_um N st := if_neg (by omega)
  have u : rb_um N (c :: st) = 1 + (N - c) * (rb_T N (N - st.length - 1) + 2) + rb_um N st := rfl
  have b : rb_um N (c :: st) ≤ rb_mu N (c :: st) f := by
    unfold rb_mu
    split <;> omega
  rw [show N + 1 - (c + 1) = N - c by omega] at a
  omega
