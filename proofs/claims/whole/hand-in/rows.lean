section
/-! rows of kit/rows, pasted -/
theorem pk_us {f : Nat → Int32} {k : Nat} {x : Int32} : upd f k x k = x := if_pos rfl
theorem pk_un {f : Nat → Int32} {k j : Nat} {x : Int32} (h : j ≠ k) : upd f k x j = f j := if_neg h
theorem pk_sub {a b : Nat} (h : b ≤ a) : nI a - nI b = nI (a - b) := by
  obtain ⟨c, rfl⟩ : ∃ c, a = c + b := ⟨a - b, by omega⟩
  rw [← nI_add, Int32.add_sub_cancel, Nat.add_sub_cancel]
theorem pk_m1 (n : Nat) : nI (n + 1) + (-1) = nI n := by
  rw [← nI_1, Int32.add_assoc, show (1 : Int32) + (-1) = 0 from rfl, Int32.add_zero]
theorem pk_mul (a b : Nat) : nI a * nI b = nI (a * b) := (Int32.ofNat_mul a b).symm
theorem pk_div {a d : Nat} (ha : a < 2 ^ 31) (h0 : 0 < d) (hd : d < 2 ^ 31) : nI a / nI d = nI (a / d) := by
  apply Int32.toInt_inj.mp
  rw [lg_idiv_nonneg (by rw [nI_toInt ha]; omega) (by rw [nI_toInt hd]; omega), nI_toInt ha, nI_toInt hd, nI_toInt (Nat.lt_of_le_of_lt (Nat.div_le_self a d) ha)]
  first | rfl | exact (Int.natCast_ediv _ _).symm
theorem pk_rem {a d : Nat} (ha : a < 2 ^ 31) (h0 : 0 < d) (hd : d < 2 ^ 31) : nI a - nI a / nI d * nI d = nI (a % d) := by
  rw [pk_div ha h0 hd, pk_mul, pk_sub (Nat.div_mul_le_self a d)]
  exact congrArg nI (by have := Nat.div_add_mod' a d; omega)
theorem pk_ix (x : Int32) {n : Nat} (hn : n < 2 ^ 31) : x < 0 ∨ nI n ≤ x ∨ ∃ j : Nat, j < n ∧ x = nI j := by
  by_cases h : x < 0
  · exact Or.inl h
  · obtain ⟨j, hj, rfl⟩ := nI_of h
    by_cases h2 : j < n
    · exact Or.inr (Or.inr ⟨j, h2, rfl⟩)
    · exact Or.inr (Or.inl (nI_le (by omega) hj))
theorem pk_le {x y : Int32} {A B : Prop} (a b : Nat) (f : a ≤ b → A) (g : b < a → B) (hx : x = nI a := by rfl) (hy : y = nI b := by rfl) (ha : a < 2 ^ 31 := by omega) (hb : b < 2 ^ 31 := by omega) : (x ≤ y → A) ∧ (¬ x ≤ y → B) := by
  subst hx hy
  rw [nI_leI ha hb]
  exact ⟨f, fun z => g (by omega)⟩
theorem pk_lt {x y : Int32} {A B : Prop} (a b : Nat) (f : a < b → A) (g : b ≤ a → B) (hx : x = nI a := by rfl) (hy : y = nI b := by rfl) (ha : a < 2 ^ 31 := by omega) (hb : b < 2 ^ 31 := by omega) : (x < y → A) ∧ (¬ x < y → B) := by
  subst hx hy
  rw [nI_ltI ha hb]
  exact ⟨f, fun z => g (by omega)⟩
theorem pk_eq {x y : Int32} {A B : Prop} (a b : Nat) (f : a = b → A) (g : a ≠ b → B) (hx : x = nI a := by rfl) (hy : y = nI b := by rfl) (ha : a < 2 ^ 31 := by omega) (hb : b < 2 ^ 31 := by omega) : (x = y → A) ∧ (¬ x = y → B) := by
  subst hx hy
  rw [nI_eq ha hb]
  exact ⟨f, g⟩
theorem pk_in {x : Int32} (n N : Nat) (h : n < N) (hx : x = nI n := by rfl) (hN : N < 2 ^ 31 := by omega) : vp_in x N := by
  subst hx
  exact vp_in_nI h hN
theorem pk_cl {x : Int32} (n : Nat) (hx : x = nI n := by rfl) (h : n < 2 ^ 31 := by omega) : x.toNatClampNeg = n := by
  subst hx
  exact nI_clamp h
theorem pk_tn {n : Nat} (h : n < 2 ^ 32) : (nI n).toBitVec.toNat = n := Nat.mod_eq_of_lt h
theorem pk_and (x : Int32) {m : Int32} (k : Nat) (hm : m.toBitVec.toNat = 2 ^ k - 1) : x &&& m = nI (x.toBitVec.toNat % 2 ^ k) := by
  apply Int32.toBitVec_inj.mp
  apply BitVec.eq_of_toNat_eq
  rw [Int32.toBitVec_and, BitVec.toNat_and, hm, Nat.and_two_pow_sub_one_eq_mod]
  show _ = (BitVec.ofNat 32 _).toNat
  rw [BitVec.toNat_ofNat]
  exact (Nat.mod_eq_of_lt (Nat.lt_of_le_of_lt (Nat.mod_le _ _) x.toBitVec.isLt)).symm
theorem pk_andN {n : Nat} (h : n < 2 ^ 32) {m : Int32} (k : Nat) (hm : m.toBitVec.toNat = 2 ^ k - 1) : nI n &&& m = nI (n % 2 ^ k) := by
  rw [pk_and _ k hm, pk_tn h]
theorem pk_shl (a s : Int32) (k : Nat) (hs : (s.toBitVec.smod 32).toNat = k) : (a <<< s).toBitVec.toNat = a.toBitVec.toNat * 2 ^ k % 2 ^ 32 := by
  show (a.toBitVec <<< (s.toBitVec.smod 32).toNat).toNat = _
  rw [hs, BitVec.toNat_shiftLeft, Nat.shiftLeft_eq]
theorem pk_shlN {n : Nat} (s : Int32) (k : Nat) (hs : (s.toBitVec.smod 32).toNat = k) (h : n * 2 ^ k < 2 ^ 32) : nI n <<< s = nI (n * 2 ^ k) := by
  apply Int32.toBitVec_inj.mp
  apply BitVec.eq_of_toNat_eq
  have hn : n < 2 ^ 32 := Nat.lt_of_le_of_lt (Nat.le_mul_of_pos_right n (Nat.two_pow_pos k)) h
  rw [pk_shl _ _ k hs, pk_tn hn, pk_tn h, Nat.mod_eq_of_lt h]
theorem pk_shr (a s : Int32) (k : Nat) (hs : (s.toBitVec.smod 32).toNat = k) : (a >>> s).toInt = a.toInt >>> k := by
  show (a.toBitVec.sshiftRight (s.toBitVec.smod 32).toNat).toInt = _
  rw [hs, BitVec.toInt_sshiftRight]
  rfl
theorem pk_shrN {n : Nat} (h : n < 2 ^ 31) (s : Int32) (k : Nat) (hs : (s.toBitVec.smod 32).toNat = k) : nI n >>> s = nI (n / 2 ^ k) := by
  apply Int32.toInt_inj.mp
  have h2 : n / 2 ^ k ≤ n := Nat.div_le_self _ _
  rw [pk_shr _ _ k hs, nI_toInt h, nI_toInt (by omega), Int.shiftRight_eq_div_pow]
  rfl
theorem pk_loop {σ : Type} (W : Nat → Nat → σ → Prop) (I : Nat → σ → Prop) (e i0 : Nat) (s : σ) (hi : i0 ≤ e) (h0 : I i0 s) (hx : ∀ n s, I e s → W (n + 1) e s)
    (hs : ∀ n i s, i < e → I i s → (∀ s', I (i + 1) s' → W n (i + 1) s') → W (n + 1) i s) : ∃ n, W n i0 s :=
  ⟨e + 1, loop_i W I e hx hs (e + 1) i0 s hi (by omega) h0⟩
theorem pk_loopD {σ : Type} (W : Nat → Nat → σ → Prop) (I : Nat → σ → Prop) (hx : ∀ n s, I 0 s → W (n + 1) 0 s)
    (hs : ∀ n i s, I (i + 1) s → (∀ s', I i s' → W n i s') → W (n + 1) (i + 1) s) : ∀ (e : Nat) (s : σ), I e s → W (e + 1) e s := by
  intro e
  induction e with
  | zero => exact fun s h => hx 0 s h
  | succ e ih => exact fun s h => hs (e + 1) e s h (fun s' h' => ih s' h')
theorem pk_least (P : Nat → Prop) (h : ∃ k, P k) : ∃ k, P k ∧ ∀ j, j < k → ¬ P j := by
  obtain ⟨k, hk⟩ := h
  induction k using Nat.strongRecOn with
  | ind k ih =>
    by_cases e : ∃ j, j < k ∧ P j
    · obtain ⟨j, hj, pj⟩ := e
      exact ih j hj pj
    · exact ⟨k, hk, fun j hj pj => e ⟨j, hj, pj⟩⟩
theorem lp1 {A1 : Type} (W : Nat → A1 → Prop) (I : A1 → Prop) (μ : A1 → Nat) (hs : ∀ (n : Nat) (a1 : A1), I a1 → (∀ (b1 : A1), I b1 → μ b1 < μ a1 → W n b1) → W (n + 1) a1) (a1 : A1) (h : I a1) : ∃ n, W n a1 :=
  loop_m (σ := A1) (fun n s => W n s) (fun s => I s) (fun s => μ s) (fun n s hI hk => hs n s hI (fun b1 h9 hm => hk b1 h9 hm)) a1 h
theorem lp2 {A1 A2 : Type} (W : Nat → A1 → A2 → Prop) (I : A1 → A2 → Prop) (μ : A1 → A2 → Nat) (hs : ∀ (n : Nat) (a1 : A1) (a2 : A2), I a1 a2 → (∀ (b1 : A1) (b2 : A2), I b1 b2 → μ b1 b2 < μ a1 a2 → W n b1 b2) → W (n + 1) a1 a2) (a1 : A1) (a2 : A2) (h : I a1 a2) : ∃ n, W n a1 a2 :=
  loop_m (σ := A1 × A2) (fun n s => W n s.1 s.2) (fun s => I s.1 s.2) (fun s => μ s.1 s.2) (fun n s hI hk => hs n s.1 s.2 hI (fun b1 b2 h9 hm => hk (b1, b2) h9 hm)) (a1, a2) h
theorem lp3 {A1 A2 A3 : Type} (W : Nat → A1 → A2 → A3 → Prop) (I : A1 → A2 → A3 → Prop) (μ : A1 → A2 → A3 → Nat) (hs : ∀ (n : Nat) (a1 : A1) (a2 : A2) (a3 : A3), I a1 a2 a3 → (∀ (b1 : A1) (b2 : A2) (b3 : A3), I b1 b2 b3 → μ b1 b2 b3 < μ a1 a2 a3 → W n b1 b2 b3) → W (n + 1) a1 a2 a3) (a1 : A1) (a2 : A2) (a3 : A3) (h : I a1 a2 a3) : ∃ n, W n a1 a2 a3 :=
  loop_m (σ := A1 × A2 × A3) (fun n s => W n s.1 s.2.1 s.2.2) (fun s => I s.1 s.2.1 s.2.2) (fun s => μ s.1 s.2.1 s.2.2) (fun n s hI hk => hs n s.1 s.2.1 s.2.2 hI (fun b1 b2 b3 h9 hm => hk (b1, b2, b3) h9 hm)) (a1, a2, a3) h
theorem lp4 {A1 A2 A3 A4 : Type} (W : Nat → A1 → A2 → A3 → A4 → Prop) (I : A1 → A2 → A3 → A4 → Prop) (μ : A1 → A2 → A3 → A4 → Nat) (hs : ∀ (n : Nat) (a1 : A1) (a2 : A2) (a3 : A3) (a4 : A4), I a1 a2 a3 a4 → (∀ (b1 : A1) (b2 : A2) (b3 : A3) (b4 : A4), I b1 b2 b3 b4 → μ b1 b2 b3 b4 < μ a1 a2 a3 a4 → W n b1 b2 b3 b4) → W (n + 1) a1 a2 a3 a4) (a1 : A1) (a2 : A2) (a3 : A3) (a4 : A4) (h : I a1 a2 a3 a4) : ∃ n, W n a1 a2 a3 a4 :=
  loop_m (σ := A1 × A2 × A3 × A4) (fun n s => W n s.1 s.2.1 s.2.2.1 s.2.2.2) (fun s => I s.1 s.2.1 s.2.2.1 s.2.2.2) (fun s => μ s.1 s.2.1 s.2.2.1 s.2.2.2) (fun n s hI hk => hs n s.1 s.2.1 s.2.2.1 s.2.2.2 hI (fun b1 b2 b3 b4 h9 hm => hk (b1, b2, b3, b4) h9 hm)) (a1, a2, a3, a4) h
theorem lp5 {A1 A2 A3 A4 A5 : Type} (W : Nat → A1 → A2 → A3 → A4 → A5 → Prop) (I : A1 → A2 → A3 → A4 → A5 → Prop) (μ : A1 → A2 → A3 → A4 → A5 → Nat) (hs : ∀ (n : Nat) (a1 : A1) (a2 : A2) (a3 : A3) (a4 : A4) (a5 : A5), I a1 a2 a3 a4 a5 → (∀ (b1 : A1) (b2 : A2) (b3 : A3) (b4 : A4) (b5 : A5), I b1 b2 b3 b4 b5 → μ b1 b2 b3 b4 b5 < μ a1 a2 a3 a4 a5 → W n b1 b2 b3 b4 b5) → W (n + 1) a1 a2 a3 a4 a5) (a1 : A1) (a2 : A2) (a3 : A3) (a4 : A4) (a5 : A5) (h : I a1 a2 a3 a4 a5) : ∃ n, W n a1 a2 a3 a4 a5 :=
  loop_m (σ := A1 × A2 × A3 × A4 × A5) (fun n s => W n s.1 s.2.1 s.2.2.1 s.2.2.2.1 s.2.2.2.2) (fun s => I s.1 s.2.1 s.2.2.1 s.2.2.2.1 s.2.2.2.2) (fun s => μ s.1 s.2.1 s.2.2.1 s.2.2.2.1 s.2.2.2.2) (fun n s hI hk => hs n s.1 s.2.1 s.2.2.1 s.2.2.2.1 s.2.2.2.2 hI (fun b1 b2 b3 b4 b5 h9 hm => hk (b1, b2, b3, b4, b5) h9 hm)) (a1, a2, a3, a4, a5) h
theorem lp6 {A1 A2 A3 A4 A5 A6 : Type} (W : Nat → A1 → A2 → A3 → A4 → A5 → A6 → Prop) (I : A1 → A2 → A3 → A4 → A5 → A6 → Prop) (μ : A1 → A2 → A3 → A4 → A5 → A6 → Nat) (hs : ∀ (n : Nat) (a1 : A1) (a2 : A2) (a3 : A3) (a4 : A4) (a5 : A5) (a6 : A6), I a1 a2 a3 a4 a5 a6 → (∀ (b1 : A1) (b2 : A2) (b3 : A3) (b4 : A4) (b5 : A5) (b6 : A6), I b1 b2 b3 b4 b5 b6 → μ b1 b2 b3 b4 b5 b6 < μ a1 a2 a3 a4 a5 a6 → W n b1 b2 b3 b4 b5 b6) → W (n + 1) a1 a2 a3 a4 a5 a6) (a1 : A1) (a2 : A2) (a3 : A3) (a4 : A4) (a5 : A5) (a6 : A6) (h : I a1 a2 a3 a4 a5 a6) : ∃ n, W n a1 a2 a3 a4 a5 a6 :=
  loop_m (σ := A1 × A2 × A3 × A4 × A5 × A6) (fun n s => W n s.1 s.2.1 s.2.2.1 s.2.2.2.1 s.2.2.2.2.1 s.2.2.2.2.2) (fun s => I s.1 s.2.1 s.2.2.1 s.2.2.2.1 s.2.2.2.2.1 s.2.2.2.2.2) (fun s => μ s.1 s.2.1 s.2.2.1 s.2.2.2.1 s.2.2.2.2.1 s.2.2.2.2.2) (fun n s hI hk => hs n s.1 s.2.1 s.2.2.1 s.2.2.2.1 s.2.2.2.2.1 s.2.2.2.2.2 hI (fun b1 b2 b3 b4 b5 b6 h9 hm => hk (b1, b2, b3, b4, b5, b6) h9 hm)) (a1, a2, a3, a4, a5, a6) h
theorem lp7 {A1 A2 A3 A4 A5 A6 A7 : Type} (W : Nat → A1 → A2 → A3 → A4 → A5 → A6 → A7 → Prop) (I : A1 → A2 → A3 → A4 → A5 → A6 → A7 → Prop) (μ : A1 → A2 → A3 → A4 → A5 → A6 → A7 → Nat) (hs : ∀ (n : Nat) (a1 : A1) (a2 : A2) (a3 : A3) (a4 : A4) (a5 : A5) (a6 : A6) (a7 : A7), I a1 a2 a3 a4 a5 a6 a7 → (∀ (b1 : A1) (b2 : A2) (b3 : A3) (b4 : A4) (b5 : A5) (b6 : A6) (b7 : A7), I b1 b2 b3 b4 b5 b6 b7 → μ b1 b2 b3 b4 b5 b6 b7 < μ a1 a2 a3 a4 a5 a6 a7 → W n b1 b2 b3 b4 b5 b6 b7) → W (n + 1) a1 a2 a3 a4 a5 a6 a7) (a1 : A1) (a2 : A2) (a3 : A3) (a4 : A4) (a5 : A5) (a6 : A6) (a7 : A7) (h : I a1 a2 a3 a4 a5 a6 a7) : ∃ n, W n a1 a2 a3 a4 a5 a6 a7 :=
  loop_m (σ := A1 × A2 × A3 × A4 × A5 × A6 × A7) (fun n s => W n s.1 s.2.1 s.2.2.1 s.2.2.2.1 s.2.2.2.2.1 s.2.2.2.2.2.1 s.2.2.2.2.2.2) (fun s => I s.1 s.2.1 s.2.2.1 s.2.2.2.1 s.2.2.2.2.1 s.2.2.2.2.2.1 s.2.2.2.2.2.2) (fun s => μ s.1 s.2.1 s.2.2.1 s.2.2.2.1 s.2.2.2.2.1 s.2.2.2.2.2.1 s.2.2.2.2.2.2) (fun n s hI hk => hs n s.1 s.2.1 s.2.2.1 s.2.2.2.1 s.2.2.2.2.1 s.2.2.2.2.2.1 s.2.2.2.2.2.2 hI (fun b1 b2 b3 b4 b5 b6 b7 h9 hm => hk (b1, b2, b3, b4, b5, b6, b7) h9 hm)) (a1, a2, a3, a4, a5, a6, a7) h
theorem lp8 {A1 A2 A3 A4 A5 A6 A7 A8 : Type} (W : Nat → A1 → A2 → A3 → A4 → A5 → A6 → A7 → A8 → Prop) (I : A1 → A2 → A3 → A4 → A5 → A6 → A7 → A8 → Prop) (μ : A1 → A2 → A3 → A4 → A5 → A6 → A7 → A8 → Nat) (hs : ∀ (n : Nat) (a1 : A1) (a2 : A2) (a3 : A3) (a4 : A4) (a5 : A5) (a6 : A6) (a7 : A7) (a8 : A8), I a1 a2 a3 a4 a5 a6 a7 a8 → (∀ (b1 : A1) (b2 : A2) (b3 : A3) (b4 : A4) (b5 : A5) (b6 : A6) (b7 : A7) (b8 : A8), I b1 b2 b3 b4 b5 b6 b7 b8 → μ b1 b2 b3 b4 b5 b6 b7 b8 < μ a1 a2 a3 a4 a5 a6 a7 a8 → W n b1 b2 b3 b4 b5 b6 b7 b8) → W (n + 1) a1 a2 a3 a4 a5 a6 a7 a8) (a1 : A1) (a2 : A2) (a3 : A3) (a4 : A4) (a5 : A5) (a6 : A6) (a7 : A7) (a8 : A8) (h : I a1 a2 a3 a4 a5 a6 a7 a8) : ∃ n, W n a1 a2 a3 a4 a5 a6 a7 a8 :=
  loop_m (σ := A1 × A2 × A3 × A4 × A5 × A6 × A7 × A8) (fun n s => W n s.1 s.2.1 s.2.2.1 s.2.2.2.1 s.2.2.2.2.1 s.2.2.2.2.2.1 s.2.2.2.2.2.2.1 s.2.2.2.2.2.2.2) (fun s => I s.1 s.2.1 s.2.2.1 s.2.2.2.1 s.2.2.2.2.1 s.2.2.2.2.2.1 s.2.2.2.2.2.2.1 s.2.2.2.2.2.2.2) (fun s => μ s.1 s.2.1 s.2.2.1 s.2.2.2.1 s.2.2.2.2.1 s.2.2.2.2.2.1 s.2.2.2.2.2.2.1 s.2.2.2.2.2.2.2) (fun n s hI hk => hs n s.1 s.2.1 s.2.2.1 s.2.2.2.1 s.2.2.2.2.1 s.2.2.2.2.2.1 s.2.2.2.2.2.2.1 s.2.2.2.2.2.2.2 hI (fun b1 b2 b3 b4 b5 b6 b7 b8 h9 hm => hk (b1, b2, b3, b4, b5, b6, b7, b8) h9 hm)) (a1, a2, a3, a4, a5, a6, a7, a8) h
theorem nx_and (a b : Nat) : nI a &&& nI b = nI (a &&& b) := by
  apply Int32.toBitVec_inj.1
  show BitVec.ofNat 32 a &&& BitVec.ofNat 32 b = BitVec.ofNat 32 (a &&& b)
  apply BitVec.eq_of_getLsbD_eq
  intro i hi
  simp [hi]
end
section
/-! B: sums over naturals below a bound, in Int32 -/
def rb_sum (f : Nat → Int32) : Nat → Int32
  | 0 => 0
  | n + 1 => rb_sum f n + f n
theorem rb_sum_s (f : Nat → Int32) (n : Nat) : rb_sum f (n + 1) = rb_sum f n + f n := rfl
theorem rb_sum_c {f g : Nat → Int32} {n : Nat} (h : ∀ i, i < n → f i = g i) : rb_sum f n = rb_sum g n := by
  induction n with
  | zero => rfl
  | succ n ih => rw [rb_sum_s, rb_sum_s, ih (fun i hi => h i (by omega)), h n (by omega)]
theorem rb_sum_z {f : Nat → Int32} {n : Nat} (h : ∀ i, i < n → f i = 0) : rb_sum f n = 0 := by
  induction n with
  | zero => rfl
  | succ n ih => rw [rb_sum_s, ih (fun i hi => h i (by omega)), h n (by omega)]; rfl
theorem rb_sum_a (f g : Nat → Int32) (n : Nat) : rb_sum (fun i => f i + g i) n = rb_sum f n + rb_sum g n := by
  induction n with
  | zero => rfl
  | succ n ih => rw [rb_sum_s, rb_sum_s, rb_sum_s, ih]; grind
theorem rb_sum_m (f : Nat → Int32) (x : Int32) (n : Nat) : rb_sum (fun i => x * f i) n = x * rb_sum f n := by
  induction n with
  | zero => exact (Int32.mul_zero).symm
  | succ n ih => rw [rb_sum_s, rb_sum_s, ih]; grind
theorem rb_sum_mr (f : Nat → Int32) (x : Int32) (n : Nat) : rb_sum (fun i => f i * x) n = rb_sum f n * x := by
  induction n with
  | zero => exact (Int32.zero_mul).symm
  | succ n ih => rw [rb_sum_s, rb_sum_s, ih]; grind
theorem rb_sum_w (f : Nat → Nat → Int32) (m n : Nat) : rb_sum (fun i => rb_sum (fun j => f i j) m) n = rb_sum (fun j => rb_sum (fun i => f i j) n) m := by
  induction n with
  | zero => exact (rb_sum_z (fun i _ => rfl)).symm
  | succ n ih =>
    rw [rb_sum_s, ih, ← rb_sum_a]
    exact rb_sum_c (fun i _ => rfl)
theorem rb_sum_d {f : Nat → Int32} {a n : Nat} (ha : a < n) (h : ∀ i, i < n → i ≠ a → f i = 0) : rb_sum f n = f a := by
  induction n with
  | zero => omega
  | succ n ih =>
    rw [rb_sum_s]
    by_cases e : a = n
    · subst e
      rw [rb_sum_z (fun i hi => h i (by omega) (by omega)), Int32.zero_add]
    · rw [ih (by omega) (fun i hi => h i (by omega)), h n (by omega) (by omega), Int32.add_zero]
theorem rb_sum_p (f : Nat → Int32) (a b : Nat) : rb_sum f (a + b) = rb_sum f a + rb_sum (fun i => f (a + i)) b := by
  induction b with
  | zero => exact (Int32.add_zero _).symm
  | succ b ih => rw [← Nat.add_assoc, rb_sum_s, rb_sum_s, ih, Int32.add_assoc]
theorem rb_sum_f (f : Nat → Int32) (n : Nat) : rb_sum f (n + 1) = f 0 + rb_sum (fun i => f (i + 1)) n := by
  induction n with
  | zero => rw [rb_sum_s]; show (0 : Int32) + f 0 = f 0 + 0; rw [Int32.zero_add, Int32.add_zero]
  | succ n ih => rw [rb_sum_s, ih, rb_sum_s, Int32.add_assoc]
/-- a bit set, a bit taken away: the same sum -/
theorem rb_shift (N : Nat) : ∀ (c : Nat), c < N → ∀ (g : Nat → Nat → Int32),
    rb_sum (fun m => if m.testBit c then 0 else g m (m + 2 ^ c)) (2 ^ N) = rb_sum (fun m => if m.testBit c then g (m - 2 ^ c) m else 0) (2 ^ N) := by
  induction N with
  | zero => intro c h; omega
  | succ N ih =>
    intro c h g
    have e : 2 ^ (N + 1) = 2 ^ N + 2 ^ N := by rw [Nat.pow_succ]; omega
    rw [e, rb_sum_p, rb_sum_p]
    by_cases hc : c = N
    · subst hc
      have a1 : rb_sum (fun m => if m.testBit c then 0 else g m (m + 2 ^ c)) (2 ^ c) = rb_sum (fun m => g m (m + 2 ^ c)) (2 ^ c) :=
        rb_sum_c (fun i hi => by rw [Nat.testBit_lt_two_pow hi]; rfl)
      have a2 : rb_sum (fun i => if (2 ^ c + i).testBit c then 0 else g (2 ^ c + i) (2 ^ c + i + 2 ^ c)) (2 ^ c) = 0 :=
        rb_sum_z (fun i hi => by rw [Nat.testBit_two_pow_add_eq, Nat.testBit_lt_two_pow hi]; rfl)
      have a3 : rb_sum (fun m => if m.testBit c then g (m - 2 ^ c) m else 0) (2 ^ c) = 0 :=
        rb_sum_z (fun i hi => by rw [Nat.testBit_lt_two_pow hi]; rfl)
      have a4 : rb_sum (fun i => if (2 ^ c + i).testBit c then g (2 ^ c + i - 2 ^ c) (2 ^ c + i) else 0) (2 ^ c) = rb_sum (fun m => g m (m + 2 ^ c)) (2 ^ c) :=
        rb_sum_c (fun i hi => by
          rw [Nat.testBit_two_pow_add_eq, Nat.testBit_lt_two_pow hi, Nat.add_sub_cancel_left, Nat.add_comm]; rfl)
      rw [a1, a2, a3, a4, Int32.add_zero, Int32.zero_add]
    · have hN : c < N := by omega
      rw [ih c hN g]
      congr 1
      have b1 : rb_sum (fun i => if (2 ^ N + i).testBit c then 0 else g (2 ^ N + i) (2 ^ N + i + 2 ^ c)) (2 ^ N) = rb_sum (fun m => if m.testBit c then 0 else (fun a b => g (2 ^ N + a) (2 ^ N + b)) m (m + 2 ^ c)) (2 ^ N) :=
        rb_sum_c (fun i hi => by rw [Nat.testBit_two_pow_add_gt hN, Nat.add_assoc])
      have b2 : rb_sum (fun i => if (2 ^ N + i).testBit c then g (2 ^ N + i - 2 ^ c) (2 ^ N + i) else 0) (2 ^ N) = rb_sum (fun m => if m.testBit c then (fun a b => g (2 ^ N + a) (2 ^ N + b)) (m - 2 ^ c) m else 0) (2 ^ N) :=
        rb_sum_c (fun i hi => by
          rw [Nat.testBit_two_pow_add_gt hN]
          by_cases t : i.testBit c
          · have := Nat.ge_two_pow_of_testBit t
            rw [if_pos t, if_pos t]
            show g (2 ^ N + i - 2 ^ c) (2 ^ N + i) = g (2 ^ N + (i - 2 ^ c)) (2 ^ N + i)
            rw [Nat.add_sub_assoc this]
          · rw [if_neg t, if_neg t])
      rw [b1, b2]
      exact ih c hN (fun a b => g (2 ^ N + a) (2 ^ N + b))
/-! masks of at most six bits -/
def rb_pc (m : Nat) : Nat := m % 2 + m / 2 % 2 + m / 4 % 2 + m / 8 % 2 + m / 16 % 2 + m / 32 % 2
def rb_chk3 (a b c : Nat) (f : Nat → Nat → Nat → Bool) : Bool := (List.range a).all fun i => (List.range b).all fun j => (List.range c).all fun l => f i j l
theorem rb_chk3_e {a b c : Nat} {f : Nat → Nat → Nat → Bool} (h : rb_chk3 a b c f = true) {i j l : Nat} (hi : i < a) (hj : j < b) (hl : l < c) : f i j l = true := by
  unfold rb_chk3 at h
  have h1 := List.all_eq_true.mp h i (List.mem_range.mpr hi)
  have h2 := List.all_eq_true.mp h1 j (List.mem_range.mpr hj)
  exact List.all_eq_true.mp h2 l (List.mem_range.mpr hl)
theorem rb_mfk : rb_chk3 7 64 6 (fun N m c => decide ((m < 2 ^ N ∧ c < N ∧ m.testBit c = false) → m + 2 ^ c < 2 ^ N ∧ rb_pc (m + 2 ^ c) = rb_pc m + 1)) = true := by decide +kernel
theorem rb_mfb : ∀ m, m < 64 → ∀ c, c < 6 → (m.testBit c = true → 2 ^ c ≤ m ∧ (m - 2 ^ c).testBit c = false ∧ rb_pc m = rb_pc (m - 2 ^ c) + 1) := by decide +kernel
theorem rb_p6 {N : Nat} (h : N ≤ 6) : 2 ^ N ≤ 64 := Nat.pow_le_pow_right (n := 2) (by decide) h
theorem rb_mf {N m c : Nat} (hN : N ≤ 6) (hm : m < 2 ^ N) (hc : c < N) (hb : m.testBit c = false) : m + 2 ^ c < 2 ^ N ∧ rb_pc (m + 2 ^ c) = rb_pc m + 1 :=
  of_decide_eq_true (rb_chk3_e rb_mfk (i := N) (j := m) (l := c) (by omega) (by have := rb_p6 hN; omega) (by omega)) ⟨hm, hc, hb⟩
theorem rb_mg {N m c : Nat} (hN : N ≤ 6) (hm : m < 2 ^ N) (hc : c < N) (hb : m.testBit c = true) : 2 ^ c ≤ m ∧ (m - 2 ^ c).testBit c = false ∧ rb_pc m = rb_pc (m - 2 ^ c) + 1 :=
  rb_mfb m (by have := rb_p6 hN; omega) c (by omega) hb
theorem rb_pcN : ∀ N, N < 7 → ∀ m, m < 64 → (m < 2 ^ N → rb_pc m ≤ N ∧ (rb_pc m = N → m = 2 ^ N - 1)) := by decide +kernel
theorem rb_pcF : ∀ N, N < 7 → rb_pc (2 ^ N - 1) = N := by decide +kernel
end
section
/-! C: the placements as one list, and the sums over them backwards -/
def rb_nx (N m c : Nat) : Nat := if c < N then m + 2 ^ c else m
def rb_np (N p c : Nat) : Nat := if c < N then p + 1 else p
def rb_al (N : Nat) (B : Nat → Bool) (r m c : Nat) : Bool := if c < N then (!m.testBit c && B (6 * r + c)) else true
def rb_CB (N : Nat) (B : Nat → Bool) (w : Nat → Nat → Nat → Int32) (k : Nat) : Nat → Nat → Int32
  | 0, m => if rb_pc m = k then 1 else 0
  | d + 1, m => rb_sum (fun c => if rb_al N B (N - (d + 1)) m c then w (N - (d + 1)) m c * rb_CB N B w k d (rb_nx N m c) else 0) (N + 1)
theorem rb_CB_0 {N : Nat} {B : Nat → Bool} {w : Nat → Nat → Nat → Int32} {k m : Nat} : rb_CB N B w k 0 m = if rb_pc m = k then 1 else 0 := rfl
theorem rb_CB_s {N : Nat} {B : Nat → Bool} {w : Nat → Nat → Nat → Int32} {k d m : Nat} : rb_CB N B w k (d + 1) m = rb_sum (fun c => if rb_al N B (N - (d + 1)) m c then w (N - (d + 1)) m c * rb_CB N B w k d (rb_nx N m c) else 0) (N + 1) := rfl
theorem rb_nx_f {N : Nat} {B : Nat → Bool} {r m c : Nat} (hN : N ≤ 6) (hm : m < 2 ^ N) (h : rb_al N B r m c = true) : rb_nx N m c < 2 ^ N ∧ rb_pc (rb_nx N m c) = rb_np N (rb_pc m) c := by
  unfold rb_nx rb_np
  unfold rb_al at h
  by_cases hc : c < N
  · rw [if_pos hc] at h ⊢
    rw [if_pos hc]
    have hb : m.testBit c = false := by
      cases e : m.testBit c
      · rfl
      · rw [e] at h; exact absurd h (by simp)
    exact rb_mf hN hm hc hb
  · rw [if_neg hc, if_neg hc]
    exact ⟨hm, rfl⟩
theorem rb_CB_hi {N : Nat} {B : Nat → Bool} {w : Nat → Nat → Nat → Int32} {k : Nat} (hN : N ≤ 6) : ∀ (d m : Nat), m < 2 ^ N → k < rb_pc m → rb_CB N B w k d m = 0 := by
  intro d
  induction d with
  | zero => intro m _ h; rw [rb_CB_0, if_neg (by omega)]
  | succ d ih =>
    intro m hm h
    rw [rb_CB_s]
    refine rb_sum_z (fun c _ => ?_)
    by_cases ha : rb_al N B (N - (d + 1)) m c = true
    · rw [if_pos ha]
      obtain ⟨h1, h2⟩ := rb_nx_f hN hm ha
      rw [ih _ h1 (by rw [h2]; unfold rb_np; split <;> omega), Int32.mul_zero]
    · rw [if_neg ha]
theorem rb_CB_lo {N : Nat} {B : Nat → Bool} {w : Nat → Nat → Nat → Int32} {k : Nat} (hN : N ≤ 6) : ∀ (d m : Nat), m < 2 ^ N → rb_pc m + d < k → rb_CB N B w k d m = 0 := by
  intro d
  induction d with
  | zero => intro m _ h; rw [rb_CB_0, if_neg (by omega)]
  | succ d ih =>
    intro m hm h
    rw [rb_CB_s]
    refine rb_sum_z (fun c _ => ?_)
    by_cases ha : rb_al N B (N - (d + 1)) m c = true
    · rw [if_pos ha]
      obtain ⟨h1, h2⟩ := rb_nx_f hN hm ha
      rw [ih _ h1 (by rw [h2]; unfold rb_np; split <;> omega), Int32.mul_zero]
    · rw [if_neg ha]
/-- the pieces for the columns N + 1 - e .. N -/
def rb_cf (N : Nat) (F : Nat → List (List Nat)) : Nat → List (List Nat)
  | 0 => []
  | e + 1 => F (N - e) ++ rb_cf N F e
def rb_ok (N k : Nat) (B : Nat → Bool) (d t p c : Nat) : Bool := if c < N then (decide (p < k) && (!t.testBit c && B (6 * (N - (d + 1)) + c))) else decide (k ≤ p + d)
/-- all ways to go on for d rows -/
def rb_comp (N k : Nat) (B : Nat → Bool) : Nat → Nat → Nat → List (List Nat)
  | 0, _, _ => [[]]
  | d + 1, t, p => rb_cf N (fun c => if rb_ok N k B d t p c then (rb_comp N k B d (rb_nx N t c) (rb_np N p c)).map (fun s => c :: s) else []) (N + 1)
def rb_pi (N k : Nat) (B : Nat → Bool) (d t p c : Nat) : List (List Nat) := if rb_ok N k B d t p c then (rb_comp N k B d (rb_nx N t c) (rb_np N p c)).map (fun s => c :: s) else []
theorem rb_comp_s {N k : Nat} {B : Nat → Bool} {d t p : Nat} : rb_comp N k B (d + 1) t p = rb_cf N (rb_pi N k B d t p) (N + 1) := rfl
theorem rb_cf_s {N : Nat} {F : Nat → List (List Nat)} {e : Nat} : rb_cf N F (e + 1) = F (N - e) ++ rb_cf N F e := rfl
def rb_ls (f : List Nat → Int32) : List (List Nat) → Int32
  | [] => 0
  | p :: L => f p + rb_ls f L
theorem rb_ls_app (f : List Nat → Int32) (L M : List (List Nat)) : rb_ls f (L ++ M) = rb_ls f L + rb_ls f M := by
  induction L with
  | nil => exact (Int32.zero_add _).symm
  | cons p L ih => show f p + rb_ls f (L ++ M) = f p + rb_ls f L + rb_ls f M; rw [ih, Int32.add_assoc]
theorem rb_ls_map (f : List Nat → Int32) (g : List Nat → List Nat) (L : List (List Nat)) : rb_ls f (L.map g) = rb_ls (fun p => f (g p)) L := by
  induction L with
  | nil => rfl
  | cons p L ih => show f (g p) + rb_ls f (L.map g) = f (g p) + rb_ls (fun p => f (g p)) L; rw [ih]
theorem rb_ls_mul (f : List Nat → Int32) (x : Int32) (L : List (List Nat)) : rb_ls (fun p => x * f p) L = x * rb_ls f L := by
  induction L with
  | nil => exact (Int32.mul_zero).symm
  | cons p L ih => show x * f p + rb_ls (fun p => x * f p) L = x * (f p + rb_ls f L); rw [ih, Int32.mul_add]
theorem rb_ls_c {f g : List Nat → Int32} {L : List (List Nat)} (h : ∀ p, p ∈ L → f p = g p) : rb_ls f L = rb_ls g L := by
  induction L with
  | nil => rfl
  | cons p L ih =>
    show f p + rb_ls f L = g p + rb_ls g L
    rw [h p (List.mem_cons_self ..), ih (fun q hq => h q (List.mem_cons_of_mem _ hq))]
theorem rb_ls_cf (f : List Nat → Int32) (N : Nat) (F : Nat → List (List Nat)) : ∀ e, e ≤ N + 1 → rb_ls f (rb_cf N F e) = rb_sum (fun i => rb_ls f (F (N + 1 - e + i))) e := by
  intro e
  induction e with
  | zero => intro _; rfl
  | succ e ih =>
    intro h
    rw [rb_cf_s, rb_ls_app, ih (by omega), rb_sum_f]
    have e1 : N + 1 - (e + 1) + 0 = N - e := by omega
    rw [e1]
    congr 1
    exact rb_sum_c (fun i _ => by rw [show N + 1 - (e + 1) + (i + 1) = N + 1 - e + i by omega])
theorem rb_ls_len (L : List (List Nat)) : rb_ls (fun _ => 1) L = nI L.length := by
  induction L with
  | nil => rfl
  | cons p L ih => show 1 + rb_ls (fun _ => 1) L = nI (L.length + 1); rw [ih, Int32.add_comm, nI_1]
def rb_PW (N : Nat) (w : Nat → Nat → Nat → Int32) : Nat → Nat → List Nat → Int32
  | _, _, [] => 1
  | r, m, c :: s => w r m c * rb_PW N w (r + 1) (rb_nx N m c) s
theorem rb_PW_c {N : Nat} {w : Nat → Nat → Nat → Int32} {r m c : Nat} {s : List Nat} : rb_PW N w r m (c :: s) = w r m c * rb_PW N w (r + 1) (rb_nx N m c) s := rfl
/-- the sum over the list is the sum backwards: what is pruned counts nothing -/
theorem rb_LS {N k : Nat} {B : Nat → Bool} {w : Nat → Nat → Nat → Int32} (hN : N ≤ 6) : ∀ (d t p : Nat), d ≤ N → t < 2 ^ N → rb_pc t = p → p ≤ k → k ≤ p + d →
    rb_ls (rb_PW N w (N - d) t) (rb_comp N k B d t p) = rb_CB N B w k d t := by
  intro d
  induction d with
  | zero =>
    intro t p _ _ hp h1 h2
    rw [rb_CB_0, if_pos (by omega)]
    rfl
  | succ d ih =>
    intro t p hd ht hp h1 h2
    rw [rb_comp_s, rb_ls_cf _ _ _ _ (Nat.le_refl _), rb_CB_s]
    refine rb_sum_c (fun c hc => ?_)
    rw [show N + 1 - (N + 1) + c = c by omega]
    have e1 : N - (d + 1) + 1 = N - d := by omega
    have key : rb_al N B (N - (d + 1)) t c = true → p ≤ k → rb_np N p c ≤ k → k ≤ rb_np N p c + d →
        rb_ls (rb_PW N w (N - (d + 1)) t) ((rb_comp N k B d (rb_nx N t c) (rb_np N p c)).map (fun s => c :: s)) = w (N - (d + 1)) t c * rb_CB N B w k d (rb_nx N t c) := by
      intro ha _ ha1 ha2
      obtain ⟨n1, n2⟩ := rb_nx_f hN ht ha
      rw [rb_ls_map]
      have : (fun s => rb_PW N w (N - (d + 1)) t (c :: s)) = (fun s => w (N - (d + 1)) t c * rb_PW N w (N - d) (rb_nx N t c) s) := by
        funext s
        rw [rb_PW_c, e1]
      rw [this, rb_ls_mul, ih (rb_nx N t c) (rb_np N p c) (by omega) n1 (by rw [n2, hp]) ha1 ha2]
    unfold rb_pi
    by_cases hcN : c < N
    · have eok : rb_ok N k B d t p c = (decide (p < k) && (!t.testBit c && B (6 * (N - (d + 1)) + c))) := if_pos hcN
      have eal : rb_al N B (N - (d + 1)) t c = (!t.testBit c && B (6 * (N - (d + 1)) + c)) := if_pos hcN
      have enp : rb_np N p c = p + 1 := if_pos hcN
      by_cases ha : rb_al N B (N - (d + 1)) t c = true
      · rw [if_pos ha]
        by_cases hpk : p < k
        · rw [if_pos (by rw [eok, ← eal, ha, decide_eq_true hpk]; rfl)]
          exact key ha h1 (by omega) (by omega)
        · rw [if_neg (by rw [eok, decide_eq_false hpk]; simp)]
          obtain ⟨n1, n2⟩ := rb_nx_f hN ht ha
          rw [rb_CB_hi hN d _ n1 (by rw [n2, hp, enp]; omega), Int32.mul_zero]
          rfl
      · rw [if_neg ha, if_neg (by rw [eok, ← eal]; simp at ha; rw [ha]; simp)]
        rfl
    · have eok : rb_ok N k B d t p c = decide (k ≤ p + d) := if_neg hcN
      have ha : rb_al N B (N - (d + 1)) t c = true := if_neg hcN
      have enp : rb_np N p c = p := if_neg hcN
      have enx : rb_nx N t c = t := if_neg hcN
      rw [if_pos ha]
      by_cases hk : k ≤ p + d
      · rw [if_pos (by rw [eok, decide_eq_true hk])]
        exact key ha h1 (by omega) (by omega)
      · rw [if_neg (by rw [eok, decide_eq_false hk]; simp), enx, rb_CB_lo hN d t ht (by omega), Int32.mul_zero]
        rfl
theorem rb_PW_1 {N : Nat} : ∀ (s : List Nat) (r m : Nat), rb_PW N (fun _ _ _ => 1) r m s = 1 := by
  intro s
  induction s with
  | nil => intro r m; rfl
  | cons c s ih => intro r m; rw [rb_PW_c, ih, Int32.one_mul]
theorem rb_len {N k : Nat} {B : Nat → Bool} {d t p : Nat} (hN : N ≤ 6) (hd : d ≤ N) (ht : t < 2 ^ N) (hp : rb_pc t = p) (h1 : p ≤ k) (h2 : k ≤ p + d) :
    rb_CB N B (fun _ _ _ => 1) k d t = nI (rb_comp N k B d t p).length := by
  rw [← rb_LS hN d t p hd ht hp h1 h2, ← rb_ls_len]
  exact rb_ls_c (fun s _ => rb_PW_1 s _ _)
theorem rb_cf_len {N b : Nat} {F : Nat → List (List Nat)} (h : ∀ c, (F c).length ≤ b) : ∀ e, (rb_cf N F e).length ≤ e * b := by
  intro e
  induction e with
  | zero => show 0 ≤ 0 * b; omega
  | succ e ih =>
    rw [rb_cf_s, List.length_append, Nat.succ_mul]
    have := h (N - e)
    omega
theorem rb_comp_len {N k : Nat} {B : Nat → Bool} (hN : N ≤ 6) : ∀ (d t p : Nat), (rb_comp N k B d t p).length ≤ 7 ^ d := by
  intro d
  induction d with
  | zero => intro t p; exact Nat.le_refl _
  | succ d ih =>
    intro t p
    rw [rb_comp_s]
    have h1 : ∀ c, (rb_pi N k B d t p c).length ≤ 7 ^ d := by
      intro c
      unfold rb_pi
      split
      · rw [List.length_map]; exact ih _ _
      · exact Nat.zero_le _
    have h2 := rb_cf_len (N := N) h1 (N + 1)
    have h3 : (N + 1) * 7 ^ d ≤ 7 * 7 ^ d := Nat.mul_le_mul_right _ (by omega)
    rw [Nat.pow_succ]
    omega
theorem rb_comp_lt {N k : Nat} {B : Nat → Bool} {d t p : Nat} (hN : N ≤ 6) (hd : d ≤ N) : (rb_comp N k B d t p).length < 2 ^ 31 := by
  have h1 := rb_comp_len (k := k) (B := B) hN d t p
  have h2 : 7 ^ d ≤ 7 ^ 6 := Nat.pow_le_pow_right (by decide) (by omega)
  have h3 : 7 ^ 6 < 2 ^ 31 := by decide
  omega
/-- each row of the list has N - (rows before) columns, each at most N -/
theorem rb_cf_mem {N : Nat} {F : Nat → List (List Nat)} {s : List Nat} : ∀ e, s ∈ rb_cf N F e → ∃ c, c ≤ N ∧ s ∈ F c := by
  intro e
  induction e with
  | zero => intro h; exact absurd h (List.not_mem_nil)
  | succ e ih =>
    intro h
    rw [rb_cf_s, List.mem_append] at h
    rcases h with h | h
    · exact ⟨N - e, by omega, h⟩
    · exact ih h
theorem rb_pi_mem {N k : Nat} {B : Nat → Bool} {d t p c : Nat} {s : List Nat} (h : s ∈ rb_pi N k B d t p c) : rb_ok N k B d t p c = true ∧ ∃ s', s = c :: s' ∧ s' ∈ rb_comp N k B d (rb_nx N t c) (rb_np N p c) := by
  unfold rb_pi at h
  split at h
  · next ho =>
    rw [List.mem_map] at h
    obtain ⟨s', h1, h2⟩ := h
    exact ⟨ho, s', h2.symm, h1⟩
  · exact absurd h (List.not_mem_nil)
theorem rb_comp_mem {N k : Nat} {B : Nat → Bool} : ∀ (d t p : Nat) (s : List Nat), s ∈ rb_comp N k B d t p → s.length = d ∧ ∀ c, c ∈ s → c ≤ N := by
  intro d
  induction d with
  | zero =>
    intro t p s h
    rw [show s = [] from List.mem_singleton.mp h]
    exact ⟨rfl, fun c hc => absurd hc (List.not_mem_nil)⟩
  | succ d ih =>
    intro t p s h
    rw [rb_comp_s] at h
    obtain ⟨c, hc, h⟩ := rb_cf_mem _ h
    obtain ⟨_, s', rfl, h'⟩ := rb_pi_mem h
    obtain ⟨a, b⟩ := ih _ _ _ h'
    refine ⟨by rw [List.length_cons, a], fun x hx => ?_⟩
    rcases List.mem_cons.mp hx with rfl | hx
    · exact hc
    · exact b x hx
end
section
/-! D: sums forwards over masks against sums backwards -/
/-- what a row brings to the mask m -/
def rb_row (N : Nat) (B : Nat → Bool) (w : Nat → Nat → Nat → Int32) (r : Nat) (v : Nat → Int32) (m : Nat) : Int32 :=
  rb_sum (fun c => if m.testBit c && B (6 * r + c) then v (m - 2 ^ c) * w r (m - 2 ^ c) c else 0) N
theorem rb_dual {N k d : Nat} {B : Nat → Bool} {w : Nat → Nat → Nat → Int32} {v v' : Nat → Int32} (hw : ∀ m, w (N - (d + 1)) m N = 1)
    (hv : ∀ m, m < 2 ^ N → v' m * rb_CB N B w k d m = v m * rb_CB N B w k d m + rb_row N B w (N - (d + 1)) v m * rb_CB N B w k d m) :
    rb_sum (fun m => v m * rb_CB N B w k (d + 1) m) (2 ^ N) = rb_sum (fun m => v' m * rb_CB N B w k d m) (2 ^ N) := by
  have hr : rb_sum (fun m => v' m * rb_CB N B w k d m) (2 ^ N) = rb_sum (fun m => v m * rb_CB N B w k d m) (2 ^ N) + rb_sum (fun m => rb_row N B w (N - (d + 1)) v m * rb_CB N B w k d m) (2 ^ N) := by
    rw [← rb_sum_a]
    exact rb_sum_c hv
  have hl : rb_sum (fun m => v m * rb_CB N B w k (d + 1) m) (2 ^ N) = rb_sum (fun m => v m * rb_CB N B w k d m) (2 ^ N) + rb_sum (fun m => rb_sum (fun c => v m * (if rb_al N B (N - (d + 1)) m c then w (N - (d + 1)) m c * rb_CB N B w k d (rb_nx N m c) else 0)) N) (2 ^ N) := by
    rw [← rb_sum_a]
    refine rb_sum_c (fun m _ => ?_)
    rw [rb_CB_s, rb_sum_s, rb_sum_m, if_pos (show rb_al N B (N - (d + 1)) m N = true from if_neg (Nat.lt_irrefl N)), hw, show rb_nx N m N = m from if_neg (Nat.lt_irrefl N), Int32.one_mul, Int32.mul_add, Int32.add_comm]
  rw [hl, hr]
  congr 1
  have hq : rb_sum (fun m => rb_row N B w (N - (d + 1)) v m * rb_CB N B w k d m) (2 ^ N) = rb_sum (fun m => rb_sum (fun c => (if m.testBit c && B (6 * (N - (d + 1)) + c) then v (m - 2 ^ c) * w (N - (d + 1)) (m - 2 ^ c) c else 0) * rb_CB N B w k d m) N) (2 ^ N) :=
    rb_sum_c (fun m _ => (rb_sum_mr _ _ _).symm)
  rw [hq, rb_sum_w _ N (2 ^ N), rb_sum_w _ N (2 ^ N)]
  refine rb_sum_c (fun c hc => ?_)
  cases hb : B (6 * (N - (d + 1)) + c)
  · rw [rb_sum_z (fun m _ => ?_), rb_sum_z (fun m _ => ?_)]
    · rw [Bool.and_false, if_neg (by simp), Int32.zero_mul]
    · rw [if_neg (by unfold rb_al; rw [if_pos hc, hb]; simp), Int32.mul_zero]
  · have e1 : rb_sum (fun m => v m * (if rb_al N B (N - (d + 1)) m c then w (N - (d + 1)) m c * rb_CB N B w k d (rb_nx N m c) else 0)) (2 ^ N) = rb_sum (fun m => if m.testBit c then 0 else (fun a b => v a * w (N - (d + 1)) a c * rb_CB N B w k d b) m (m + 2 ^ c)) (2 ^ N) :=
      rb_sum_c (fun m _ => by
        have ea : rb_al N B (N - (d + 1)) m c = !m.testBit c := by unfold rb_al; rw [if_pos hc, hb, Bool.and_true]
        rw [ea, show rb_nx N m c = m + 2 ^ c from if_pos hc]
        cases m.testBit c
        · show v m * (w (N - (d + 1)) m c * rb_CB N B w k d (m + 2 ^ c)) = v m * w (N - (d + 1)) m c * rb_CB N B w k d (m + 2 ^ c)
          rw [Int32.mul_assoc]
        · exact Int32.mul_zero)
    have e2 : rb_sum (fun m => (if m.testBit c && true then v (m - 2 ^ c) * w (N - (d + 1)) (m - 2 ^ c) c else 0) * rb_CB N B w k d m) (2 ^ N) = rb_sum (fun m => if m.testBit c then (fun a b => v a * w (N - (d + 1)) a c * rb_CB N B w k d b) (m - 2 ^ c) m else 0) (2 ^ N) :=
      rb_sum_c (fun m _ => by
        cases m.testBit c
        · exact Int32.zero_mul
        · rfl)
    rw [e1, e2]
    exact rb_shift N c hc (fun a b => v a * w (N - (d + 1)) a c * rb_CB N B w k d b)
/-- the start: one placement so far -/
theorem rb_start {N k d u : Nat} {B : Nat → Bool} {w : Nat → Nat → Nat → Int32} {v : Nat → Int32} (hu : u < 2 ^ N) (h1 : v u = 1) (h0 : ∀ m, m < 2 ^ N → m ≠ u → v m = 0) :
    rb_sum (fun m => v m * rb_CB N B w k d m) (2 ^ N) = rb_CB N B w k d u := by
  rw [rb_sum_d hu (fun m hm hne => by rw [h0 m hm hne, Int32.zero_mul]), h1, Int32.one_mul]
/-- the end: the total of k -/
theorem rb_total {N k : Nat} {B : Nat → Bool} {w : Nat → Nat → Nat → Int32} {v : Nat → Int32} :
    rb_sum (fun m => v m * rb_CB N B w k 0 m) (2 ^ N) = rb_sum (fun m => if rb_pc m = k then v m else 0) (2 ^ N) := by
  refine rb_sum_c (fun m _ => ?_)
  rw [rb_CB_0]
  split
  · exact Int32.mul_one _
  · exact Int32.mul_zero
/-! a rook forced, a row left out -/
def rb_w1 : Nat → Nat → Nat → Int32 := fun _ _ _ => 1
def rb_wf (r0 c0 : Nat) : Nat → Nat → Nat → Int32 := fun r _ c => if r = r0 then (if c = c0 then 1 else 0) else 1
def rb_ws (N r0 : Nat) : Nat → Nat → Nat → Int32 := fun r _ c => if r = r0 then (if c = N then 1 else 0) else 1
theorem rb_CB_e {N k : Nat} {B : Nat → Bool} {w w' : Nat → Nat → Nat → Int32} : ∀ (d : Nat), (∀ r m c, N - d ≤ r → w r m c = w' r m c) → ∀ m, rb_CB N B w k d m = rb_CB N B w' k d m := by
  intro d
  induction d with
  | zero => intro _ m; rfl
  | succ d ih =>
    intro h m
    rw [rb_CB_s, rb_CB_s]
    refine rb_sum_c (fun c _ => ?_)
    rw [h _ _ _ (Nat.le_refl _), ih (fun r m c hr => h r m c (by omega))]
theorem rb_tb : rb_chk3 64 6 6 (fun m c e => decide (m.testBit c = false → ((m + 2 ^ c).testBit e = (m.testBit e || decide (c = e))))) = true := by decide +kernel
theorem rb_tbN {N m c e : Nat} (hN : N ≤ 6) (hm : m < 2 ^ N) (hc : c < N) (he : e < N) (h : m.testBit c = false) : (m + 2 ^ c).testBit e = (m.testBit e || decide (c = e)) :=
  of_decide_eq_true (rb_chk3_e rb_tb (i := m) (j := c) (l := e) (by have := rb_p6 hN; omega) (by omega) (by omega)) h
theorem rb_forced {N k r0 c0 : Nat} {B : Nat → Bool} (hN : N ≤ 6) (hr0 : r0 < N) (hc0 : c0 < N) (hB : B (6 * r0 + c0) = true) : ∀ (d m : Nat), d ≤ N → N - d ≤ r0 → m < 2 ^ N →
    rb_CB N B (rb_wf r0 c0) k d m = if m.testBit c0 then 0 else rb_CB N B (rb_ws N r0) k d (m + 2 ^ c0) := by
  intro d
  induction d with
  | zero => intro m _ h; omega
  | succ d ih =>
    intro m hd hr hm
    rw [rb_CB_s]
    by_cases hrr : N - (d + 1) = r0
    · -- the row itself
      have hf : ∀ x, rb_CB N B (rb_wf r0 c0) k d x = rb_CB N B rb_w1 k d x := rb_CB_e d (fun r m c hr' => if_neg (by omega))
      have hs : ∀ x, rb_CB N B (rb_ws N r0) k d x = rb_CB N B rb_w1 k d x := rb_CB_e d (fun r m c hr' => if_neg (by omega))
      have h1 : rb_sum (fun c => if rb_al N B (N - (d + 1)) m c then rb_wf r0 c0 (N - (d + 1)) m c * rb_CB N B (rb_wf r0 c0) k d (rb_nx N m c) else 0) (N + 1) = if rb_al N B (N - (d + 1)) m c0 then rb_wf r0 c0 (N - (d + 1)) m c0 * rb_CB N B (rb_wf r0 c0) k d (rb_nx N m c0) else 0 := by
        refine rb_sum_d (a := c0) (by omega) (fun i _ hi => ?_)
        rw [show rb_wf r0 c0 (N - (d + 1)) m i = 0 from by unfold rb_wf; rw [if_pos hrr, if_neg hi], Int32.zero_mul]
        exact ite_self _
      rw [h1, hf, show rb_wf r0 c0 (N - (d + 1)) m c0 = 1 from by unfold rb_wf; rw [if_pos hrr, if_pos rfl], Int32.one_mul, show rb_al N B (N - (d + 1)) m c0 = !m.testBit c0 from by unfold rb_al; rw [if_pos hc0, hrr, hB, Bool.and_true], show rb_nx N m c0 = m + 2 ^ c0 from if_pos hc0]
      cases m.testBit c0
      · rw [if_pos (by rfl), if_neg (by decide), rb_CB_s]
        have h2 : rb_sum (fun c => if rb_al N B (N - (d + 1)) (m + 2 ^ c0) c then rb_ws N r0 (N - (d + 1)) (m + 2 ^ c0) c * rb_CB N B (rb_ws N r0) k d (rb_nx N (m + 2 ^ c0) c) else 0) (N + 1) = if rb_al N B (N - (d + 1)) (m + 2 ^ c0) N then rb_ws N r0 (N - (d + 1)) (m + 2 ^ c0) N * rb_CB N B (rb_ws N r0) k d (rb_nx N (m + 2 ^ c0) N) else 0 := by
          refine rb_sum_d (a := N) (by omega) (fun i _ hi => ?_)
          rw [show rb_ws N r0 (N - (d + 1)) (m + 2 ^ c0) i = 0 from by unfold rb_ws; rw [if_pos hrr, if_neg hi], Int32.zero_mul]
          exact ite_self _
        rw [h2, if_pos (show rb_al N B (N - (d + 1)) (m + 2 ^ c0) N = true from if_neg (Nat.lt_irrefl N)), show rb_ws N r0 (N - (d + 1)) (m + 2 ^ c0) N = 1 from by unfold rb_ws; rw [if_pos hrr, if_pos rfl], Int32.one_mul, hs, show rb_nx N (m + 2 ^ c0) N = m + 2 ^ c0 from if_neg (Nat.lt_irrefl N)]
      · rw [if_neg (by decide), if_pos rfl]
    · have hw1 : ∀ x c, rb_wf r0 c0 (N - (d + 1)) x c = 1 := fun x c => if_neg hrr
      have hw2 : ∀ x c, rb_ws N r0 (N - (d + 1)) x c = 1 := fun x c => if_neg hrr
      have IH := fun x hx => ih x (by omega) (by omega) hx
      cases hb : m.testBit c0
      · rw [if_neg (by decide), rb_CB_s]
        refine rb_sum_c (fun c hc => ?_)
        rw [hw1, hw2, Int32.one_mul, Int32.one_mul]
        by_cases hcN : c < N
        · have ea : rb_al N B (N - (d + 1)) m c = (!m.testBit c && B (6 * (N - (d + 1)) + c)) := if_pos hcN
          have ea' : rb_al N B (N - (d + 1)) (m + 2 ^ c0) c = (!(m + 2 ^ c0).testBit c && B (6 * (N - (d + 1)) + c)) := if_pos hcN
          rw [rb_tbN hN hm hc0 hcN hb] at ea'
          rw [show rb_nx N m c = m + 2 ^ c from if_pos hcN, show rb_nx N (m + 2 ^ c0) c = m + 2 ^ c0 + 2 ^ c from if_pos hcN, ea, ea']
          cases hbc : m.testBit c
          · cases hB2 : B (6 * (N - (d + 1)) + c)
            · rw [if_neg (by simp), if_neg (by simp)]
            · rw [if_pos (by simp)]
              have hm' := (rb_mf hN hm hcN hbc).1
              rw [IH _ hm', rb_tbN hN hm hcN hc0 hbc, hb]
              by_cases hcc : c0 = c
              · subst hcc
                rw [if_pos (by simp), if_neg (by simp)]
              · rw [if_neg (by simp; omega), if_pos (by simp; omega), show m + 2 ^ c + 2 ^ c0 = m + 2 ^ c0 + 2 ^ c by omega]
          · rw [if_neg (by simp), if_neg (by simp)]
        · have ea : ∀ x, rb_al N B (N - (d + 1)) x c = true := fun x => if_neg hcN
          have en : ∀ x, rb_nx N x c = x := fun x => if_neg hcN
          rw [if_pos (ea _), if_pos (ea _), en, en, IH m hm, hb, if_neg (by decide)]
      · rw [if_pos rfl]
        refine rb_sum_z (fun c _ => ?_)
        by_cases ha : rb_al N B (N - (d + 1)) m c = true
        · rw [if_pos ha, IH _ (rb_nx_f hN hm ha).1]
          have : (rb_nx N m c).testBit c0 = true := by
            by_cases hcN : c < N
            · have hbc : m.testBit c = false := by
                unfold rb_al at ha
                rw [if_pos hcN] at ha
                cases e : m.testBit c
                · rfl
                · rw [e] at ha; exact absurd ha (by simp)
              rw [show rb_nx N m c = m + 2 ^ c from if_pos hcN, rb_tbN hN hm hcN hc0 hbc, hb]
              rfl
            · rw [show rb_nx N m c = m from if_neg hcN, hb]
          rw [this, if_pos rfl, Int32.mul_zero]
        · rw [if_neg ha]
/-- where the cell is not on the board none goes through it -/
theorem rb_forced0 {N k r0 c0 : Nat} {B : Nat → Bool} (hr0 : r0 < N) (hc0 : c0 < N) (hB : B (6 * r0 + c0) = false) : ∀ (d m : Nat), d ≤ N → N - d ≤ r0 → rb_CB N B (rb_wf r0 c0) k d m = 0 := by
  intro d
  induction d with
  | zero => intro m _ h; omega
  | succ d ih =>
    intro m hd hr
    rw [rb_CB_s]
    refine rb_sum_z (fun c _ => ?_)
    by_cases hrr : N - (d + 1) = r0
    · by_cases hcc : c = c0
      · subst hcc
        rw [if_neg (by unfold rb_al; rw [if_pos hc0, hrr, hB]; simp)]
      · rw [show rb_wf r0 c0 (N - (d + 1)) m c = 0 from by unfold rb_wf; rw [if_pos hrr, if_neg hcc], Int32.zero_mul]
        exact ite_self _
    · rw [ih _ (by omega) (by omega), Int32.mul_zero]
      exact ite_self _
end
section
/-! E: hits -/
def rb_HB (N : Nat) (h : Nat → Nat → Nat) (kk : Nat) : Nat → Nat → Nat → Int32
  | 0, _, j => if j = kk then 1 else 0
  | d + 1, m, j => rb_sum (fun c => if m.testBit c then 0 else rb_HB N h kk d (m + 2 ^ c) (j + h (N - (d + 1)) c)) N
theorem rb_HB_0 {N : Nat} {h : Nat → Nat → Nat} {kk m j : Nat} : rb_HB N h kk 0 m j = if j = kk then 1 else 0 := rfl
theorem rb_HB_s {N : Nat} {h : Nat → Nat → Nat} {kk d m j : Nat} : rb_HB N h kk (d + 1) m j = rb_sum (fun c => if m.testBit c then 0 else rb_HB N h kk d (m + 2 ^ c) (j + h (N - (d + 1)) c)) N := rfl
def rb_hi (h : Nat → Nat → Nat) : Nat → List Nat → Nat
  | _, [] => 0
  | r, c :: s => h r c + rb_hi h (r + 1) s
theorem rb_HB_hi {N : Nat} {h : Nat → Nat → Nat} {kk : Nat} : ∀ (d m j : Nat), kk < j → rb_HB N h kk d m j = 0 := by
  intro d
  induction d with
  | zero => intro m j hj; rw [rb_HB_0, if_neg (by omega)]
  | succ d ih =>
    intro m j hj
    rw [rb_HB_s]
    refine rb_sum_z (fun c _ => ?_)
    rw [ih _ _ (by omega)]
    exact ite_self _
theorem rb_HL {N : Nat} {h : Nat → Nat → Nat} {kk : Nat} (hN : N ≤ 6) : ∀ (d t j p : Nat), d ≤ N → t < 2 ^ N → rb_pc t = p → p + d = N →
    rb_ls (fun s => if j + rb_hi h (N - d) s = kk then 1 else 0) (rb_comp N N (fun _ => true) d t p) = rb_HB N h kk d t j := by
  intro d
  induction d with
  | zero =>
    intro t j p _ _ _ _
    show (if j + 0 = kk then (1 : Int32) else 0) + 0 = _
    rw [Int32.add_zero, rb_HB_0, Nat.add_zero]
  | succ d ih =>
    intro t j p hd ht hp hpd
    rw [rb_comp_s, rb_ls_cf _ _ _ _ (Nat.le_refl _), rb_HB_s, rb_sum_s]
    have e1 : N - (d + 1) + 1 = N - d := by omega
    have last : rb_pi N N (fun _ => true) d t p (N + 1 - (N + 1) + N) = [] := by
      rw [show N + 1 - (N + 1) + N = N by omega]
      unfold rb_pi
      rw [if_neg (by unfold rb_ok; rw [if_neg (Nat.lt_irrefl N)]; simp; omega)]
    rw [last]
    show _ + (0 : Int32) = _
    rw [Int32.add_zero]
    refine rb_sum_c (fun c hc => ?_)
    rw [show N + 1 - (N + 1) + c = c by omega]
    unfold rb_pi
    have eok : rb_ok N N (fun _ => true) d t p c = (decide (p < N) && (!t.testBit c && true)) := if_pos hc
    cases hb : t.testBit c
    · rw [if_pos (by rw [eok, hb, decide_eq_true (show p < N by omega)]; rfl), if_neg (by decide), rb_ls_map]
      rw [show rb_nx N t c = t + 2 ^ c from if_pos hc, show rb_np N p c = p + 1 from if_pos hc]
      obtain ⟨m1, m2⟩ := rb_mf hN ht hc hb
      rw [← ih (t + 2 ^ c) (j + h (N - (d + 1)) c) (p + 1) (by omega) m1 (by omega) (by omega)]
      refine rb_ls_c (fun s _ => ?_)
      show (if j + (h (N - (d + 1)) c + rb_hi h (N - (d + 1) + 1) s) = kk then (1 : Int32) else 0) = _
      rw [e1, Nat.add_assoc]
    · rw [if_neg (by rw [eok, hb]; simp), if_pos rfl]
      rfl
/-- the sum at a row -/
def rb_Q (N : Nat) (h : Nat → Nat → Nat) (kk : Nat) (H : Nat → Nat → Int32) (r : Nat) : Int32 :=
  rb_sum (fun m => if rb_pc m = r then rb_sum (fun j => H m j * rb_HB N h kk (N - r) m j) (N + 1) else 0) (2 ^ N)
theorem rb_hsh {N d a m kk x : Nat} {h : Nat → Nat → Nat} {H : Nat → Nat → Int32} (hk : kk ≤ N) (hx : x ≤ 1) :
    rb_sum (fun j => H a j * rb_HB N h kk d m (j + x)) (N + 1) = rb_sum (fun j => (if x ≤ j then H a (j - x) else 0) * rb_HB N h kk d m j) (N + 1) := by
  rcases (show x = 0 ∨ x = 1 by omega) with rfl | rfl
  · exact rb_sum_c (fun j _ => by rw [if_pos (Nat.zero_le j)]; rfl)
  · rw [rb_sum_s, rb_sum_f, rb_HB_hi d m (N + 1) (by omega), Int32.mul_zero, Int32.add_zero, if_neg (by decide), Int32.zero_mul, Int32.zero_add]
    exact rb_sum_c (fun j _ => by rw [if_pos (by omega)]; rfl)
theorem rb_Qs {N kk r : Nat} {h : Nat → Nat → Nat} {H : Nat → Nat → Int32} (hN : N ≤ 6) (hk : kk ≤ N) (hr : r < N) (hh : ∀ a b, h a b ≤ 1)
    (hH : ∀ m, m < 2 ^ N → rb_pc m = r + 1 → ∀ j, j ≤ N → H m j = rb_sum (fun c => if m.testBit c then (if h r c ≤ j then H (m - 2 ^ c) (j - h r c) else 0) else 0) N) :
    rb_Q N h kk H r = rb_Q N h kk H (r + 1) := by
  obtain ⟨d, hd⟩ : ∃ d, N = r + 1 + d := ⟨N - (r + 1), by omega⟩
  have d1 : N - r = d + 1 := by omega
  have d2 : N - (r + 1) = d := by omega
  have d3 : N - (d + 1) = r := by omega
  unfold rb_Q
  rw [d1, d2]
  have hl : rb_sum (fun m => if rb_pc m = r then rb_sum (fun j => H m j * rb_HB N h kk (d + 1) m j) (N + 1) else 0) (2 ^ N) =
      rb_sum (fun m => rb_sum (fun c => if m.testBit c then 0 else (fun a b => if rb_pc a = r then rb_sum (fun j => H a j * rb_HB N h kk d b (j + h r c)) (N + 1) else 0) m (m + 2 ^ c)) N) (2 ^ N) := by
    refine rb_sum_c (fun m _ => ?_)
    by_cases hp : rb_pc m = r
    · rw [if_pos hp]
      have : rb_sum (fun j => H m j * rb_HB N h kk (d + 1) m j) (N + 1) = rb_sum (fun j => rb_sum (fun c => H m j * (if m.testBit c then 0 else rb_HB N h kk d (m + 2 ^ c) (j + h r c))) N) (N + 1) :=
        rb_sum_c (fun j _ => by rw [rb_HB_s, d3, rb_sum_m])
      rw [this, rb_sum_w]
      refine rb_sum_c (fun c _ => ?_)
      cases m.testBit c
      · show _ = if rb_pc m = r then rb_sum (fun j => H m j * rb_HB N h kk d (m + 2 ^ c) (j + h r c)) (N + 1) else 0
        rw [if_pos hp]
        exact rb_sum_c (fun j _ => rfl)
      · exact rb_sum_z (fun j _ => Int32.mul_zero)
    · rw [if_neg hp]
      refine (rb_sum_z (fun c _ => ?_)).symm
      show (if m.testBit c = true then (0 : Int32) else (if rb_pc m = r then _ else 0)) = 0
      rw [if_neg hp]
      exact ite_self _
  have hq : rb_sum (fun m => if rb_pc m = r + 1 then rb_sum (fun j => H m j * rb_HB N h kk d m j) (N + 1) else 0) (2 ^ N) =
      rb_sum (fun m => rb_sum (fun c => if m.testBit c then (fun a b => if rb_pc a = r then rb_sum (fun j => H a j * rb_HB N h kk d b (j + h r c)) (N + 1) else 0) (m - 2 ^ c) m else 0) N) (2 ^ N) := by
    refine rb_sum_c (fun m hm => ?_)
    by_cases hp : rb_pc m = r + 1
    · rw [if_pos hp]
      have : rb_sum (fun j => H m j * rb_HB N h kk d m j) (N + 1) = rb_sum (fun j => rb_sum (fun c => (if m.testBit c then (if h r c ≤ j then H (m - 2 ^ c) (j - h r c) else 0) else 0) * rb_HB N h kk d m j) N) (N + 1) :=
        rb_sum_c (fun j hj => by rw [hH m hm hp j (by omega), rb_sum_mr])
      rw [this, rb_sum_w]
      refine rb_sum_c (fun c hc => ?_)
      cases hb : m.testBit c
      · exact rb_sum_z (fun j _ => Int32.zero_mul)
      · have := (rb_mg hN hm hc hb).2.2
        show _ = if rb_pc (m - 2 ^ c) = r then rb_sum (fun j => H (m - 2 ^ c) j * rb_HB N h kk d m (j + h r c)) (N + 1) else 0
        rw [if_pos (by omega), rb_hsh hk (hh r c)]
        exact rb_sum_c (fun j _ => rfl)
    · rw [if_neg hp]
      refine (rb_sum_z (fun c hc => ?_)).symm
      cases hb : m.testBit c
      · rfl
      · have := (rb_mg hN hm hc hb).2.2
        show (if rb_pc (m - 2 ^ c) = r then rb_sum (fun j => H (m - 2 ^ c) j * rb_HB N h kk d m (j + h r c)) (N + 1) else 0) = 0
        rw [if_neg (by omega)]
  rw [hl, hq, rb_sum_w _ N (2 ^ N), rb_sum_w _ N (2 ^ N)]
  exact rb_sum_c (fun c hc => rb_shift N c hc (fun a b => if rb_pc a = r then rb_sum (fun j => H a j * rb_HB N h kk d b (j + h r c)) (N + 1) else 0))
theorem rb_pc0 : ∀ m, m < 64 → (rb_pc m = 0 → m = 0) := by decide +kernel
theorem rb_hits {N kk : Nat} {h : Nat → Nat → Nat} {H : Nat → Nat → Int32} (hN : N ≤ 6) (hk : kk ≤ N) (hh : ∀ a b, h a b ≤ 1)
    (h00 : H 0 0 = 1) (h0 : ∀ j, 0 < j → j ≤ N → H 0 j = 0)
    (hH : ∀ m, 0 < m → m < 2 ^ N → ∀ j, j ≤ N → H m j = rb_sum (fun c => if m.testBit c then (if h (rb_pc m - 1) c ≤ j then H (m - 2 ^ c) (j - h (rb_pc m - 1) c) else 0) else 0) N) :
    H (2 ^ N - 1) kk = rb_HB N h kk N 0 0 := by
  have hp : 0 < 2 ^ N := Nat.two_pow_pos N
  have all : ∀ r, r ≤ N → rb_Q N h kk H 0 = rb_Q N h kk H r := by
    intro r
    induction r with
    | zero => intro _; rfl
    | succ r ih =>
      intro hr
      rw [ih (by omega)]
      refine rb_Qs hN hk (by omega) hh (fun m hm hpm j hj => ?_)
      have hm0 : 0 < m := by
        rcases Nat.eq_zero_or_pos m with rfl | h
        · exact absurd hpm (by show ¬ 0 = r + 1; omega)
        · exact h
      have := hH m hm0 hm j hj
      rw [hpm] at this
      exact this
  have q0 : rb_Q N h kk H 0 = rb_HB N h kk N 0 0 := by
    unfold rb_Q
    rw [rb_sum_d (a := 0) hp (fun m hm hne => if_neg (fun e => hne (rb_pc0 m (by have := rb_p6 hN; omega) e))), if_pos (by rfl), rb_sum_d (a := 0) (by omega) (fun j hj hne => by rw [h0 j (by omega) (by omega), Int32.zero_mul]), h00, Int32.one_mul]
    rfl
  have qN : rb_Q N h kk H N = H (2 ^ N - 1) kk := by
    unfold rb_Q
    rw [rb_sum_d (a := 2 ^ N - 1) (by omega) (fun m hm hne => if_neg (fun e => hne ((rb_pcN N (by omega) m (by have := rb_p6 hN; omega) hm).2 e))), if_pos (rb_pcF N (by omega)), Nat.sub_self, rb_sum_d (a := kk) (by omega) (fun j hj hne => by rw [rb_HB_0, if_neg hne, Int32.mul_zero]), rb_HB_0, if_pos rfl, Int32.mul_one]
  rw [← qN, ← q0]
  exact (all N (Nat.le_refl N)).symm
end
section
/-! F: what a placement is worth -/
theorem rb_drop {p : List Nat} {r : Nat} (h : r < p.length) : p.drop r = p.getD r 0 :: p.drop (r + 1) := by
  rw [List.drop_eq_getElem_cons h, List.getD_eq_getElem?_getD, List.getElem?_eq_getElem h]
  rfl
def rb_wd (N : Nat) (W : Nat → Int32) : Nat → Nat → Nat → Int32 := fun r _ c => if c < N then W (6 * r + c) else 1
def rb_wo (N : Nat) (W : Nat → Int32) : Nat → List Nat → Int32
  | _, [] => 1
  | r, c :: s => (if c < N then W (6 * r + c) else 1) * rb_wo N W (r + 1) s
theorem rb_wo_PW {N : Nat} {W : Nat → Int32} : ∀ (s : List Nat) (r m : Nat), rb_PW N (rb_wd N W) r m s = rb_wo N W r s := by
  intro s
  induction s with
  | nil => intro r m; rfl
  | cons c s ih => intro r m; rw [rb_PW_c, ih]; rfl
/-- the forced rook -/
theorem rb_wf_PW {N r0 c0 : Nat} : ∀ (s : List Nat) (r m : Nat), (r0 < r ∨ r0 - r < s.length) → rb_PW N (rb_wf r0 c0) r m s = if r0 < r then 1 else if s.getD (r0 - r) 0 = c0 then 1 else 0 := by
  intro s
  induction s with
  | nil =>
    intro r m h
    rcases h with h | h
    · rw [if_pos h]; rfl
    · exact absurd h (Nat.not_lt_zero _)
  | cons c s ih =>
    intro r m h
    rw [rb_PW_c]
    by_cases h1 : r0 < r
    · rw [if_pos h1, ih _ _ (Or.inl (by omega)), if_pos (by omega), show rb_wf r0 c0 r m c = 1 from if_neg (by omega), Int32.mul_one]
    · rw [if_neg h1]
      by_cases h2 : r = r0
      · subst h2
        rw [ih _ _ (Or.inl (by omega)), if_pos (by omega), Nat.sub_self, Int32.mul_one]
        exact if_pos rfl
      · rw [show rb_wf r0 c0 r m c = 1 from if_neg h2, Int32.one_mul]
        have hlen : r0 - (r + 1) < s.length := by
          rcases h with h | h
          · omega
          · rw [List.length_cons] at h; omega
        rw [ih _ _ (Or.inr hlen), if_neg (by omega), show r0 - r = (r0 - (r + 1)) + 1 by omega]
        rfl
/-! signs -/
def rb_sg (n : Nat) : Int32 := if n % 2 = 0 then 1 else -1
theorem rb_sg_a (a b : Nat) : rb_sg (a + b) = rb_sg a * rb_sg b := by
  unfold rb_sg
  rcases Nat.mod_two_eq_zero_or_one a with h | h <;> rcases Nat.mod_two_eq_zero_or_one b with g | g
  · rw [if_pos (by omega), if_pos h, if_pos g]; rfl
  · rw [if_neg (by omega), if_pos h, if_neg (by omega)]; rfl
  · rw [if_neg (by omega), if_neg (by omega), if_pos g]; rfl
  · rw [if_pos (by omega), if_neg (by omega), if_neg (by omega)]; rfl
theorem rb_sg_s (a : Nat) : rb_sg (a + 1) = -rb_sg a := by
  rw [rb_sg_a]
  show rb_sg a * -1 = _
  grind
def rb_gt (m c : Nat) : Nat := rb_pc (m / 2 ^ (c + 1))
def rb_wg (N : Nat) (W : Nat → Int32) : Nat → Nat → Nat → Int32 := fun r m c => if c < N then W (6 * r + c) * rb_sg (rb_gt m c) else 1
def rb_ct (c : Nat) : List Nat → Nat
  | [] => 0
  | x :: s => (if x < c then 1 else 0) + rb_ct c s
def rb_iv : List Nat → Nat
  | [] => 0
  | c :: s => rb_ct c s + rb_iv s
def rb_gs (m : Nat) : List Nat → Nat
  | [] => 0
  | x :: s => rb_gt m x + rb_gs m s
/-- full: each row has a rook, no column twice -/
def rb_vl (N : Nat) : Nat → List Nat → Prop
  | _, [] => True
  | m, c :: s => c < N ∧ m.testBit c = false ∧ rb_vl N (m + 2 ^ c) s
theorem rb_gta : rb_chk3 64 6 6 (fun m c x => decide (m.testBit c = false → rb_gt (m + 2 ^ c) x = rb_gt m x + (if x < c then 1 else 0))) = true := by decide +kernel
theorem rb_gs_a {N m c : Nat} (hN : N ≤ 6) (hm : m < 2 ^ N) (hc : c < N) (hb : m.testBit c = false) : ∀ (s : List Nat), (∀ x, x ∈ s → x < N) → rb_gs (m + 2 ^ c) s = rb_gs m s + rb_ct c s := by
  intro s
  induction s with
  | nil => intro _; rfl
  | cons x s ih =>
    intro h
    have hx := h x (List.mem_cons_self ..)
    show rb_gt (m + 2 ^ c) x + rb_gs (m + 2 ^ c) s = (rb_gt m x + rb_gs m s) + ((if x < c then 1 else 0) + rb_ct c s)
    rw [ih (fun y hy => h y (List.mem_cons_of_mem _ hy)), of_decide_eq_true (rb_chk3_e rb_gta (i := m) (j := c) (l := x) (by have := rb_p6 hN; omega) (by omega) (by omega)) hb]
    omega
theorem rb_vl_lt {N : Nat} : ∀ (s : List Nat) (m : Nat), rb_vl N m s → ∀ x, x ∈ s → x < N := by
  intro s
  induction s with
  | nil => intro m _ x h; exact absurd h (List.not_mem_nil)
  | cons c s ih =>
    intro m h x hx
    obtain ⟨h1, _, h3⟩ := h
    rcases List.mem_cons.mp hx with rfl | hx
    · exact h1
    · exact ih _ h3 x hx
theorem rb_wg_PW {N : Nat} {W : Nat → Int32} (hN : N ≤ 6) : ∀ (s : List Nat) (r m : Nat), m < 2 ^ N → rb_vl N m s → rb_PW N (rb_wg N W) r m s = rb_sg (rb_iv s + rb_gs m s) * rb_wo N W r s := by
  intro s
  induction s with
  | nil => intro r m _ _; rfl
  | cons c s ih =>
    intro r m hm hv
    obtain ⟨h1, h2, h3⟩ := hv
    rw [rb_PW_c, show rb_nx N m c = m + 2 ^ c from if_pos h1, ih _ _ (rb_mf hN hm h1 h2).1 h3, rb_gs_a hN hm h1 h2 s (rb_vl_lt s _ h3)]
    show rb_wg N W r m c * (rb_sg (rb_iv s + (rb_gs m s + rb_ct c s)) * rb_wo N W (r + 1) s) = rb_sg ((rb_ct c s + rb_iv s) + (rb_gt m c + rb_gs m s)) * ((if c < N then W (6 * r + c) else 1) * rb_wo N W (r + 1) s)
    rw [show rb_wg N W r m c = W (6 * r + c) * rb_sg (rb_gt m c) from if_pos h1, if_pos h1, show (rb_ct c s + rb_iv s) + (rb_gt m c + rb_gs m s) = rb_gt m c + (rb_iv s + (rb_gs m s + rb_ct c s)) by omega, rb_sg_a (rb_gt m c)]
    grind
theorem rb_gs0 : ∀ (s : List Nat), rb_gs 0 s = 0 := by
  intro s
  induction s with
  | nil => rfl
  | cons x s ih =>
    show rb_pc (0 / 2 ^ (x + 1)) + rb_gs 0 s = 0
    rw [ih, Nat.zero_div]
    rfl
theorem rb_full {N : Nat} {B : Nat → Bool} (hN : N ≤ 6) : ∀ (d t p : Nat) (s : List Nat), p + d = N → t < 2 ^ N → s ∈ rb_comp N N B d t p → rb_vl N t s := by
  intro d
  induction d with
  | zero =>
    intro t p s _ _ h
    rw [show s = [] from List.mem_singleton.mp h]
    exact True.intro
  | succ d ih =>
    intro t p s hp ht h
    rw [rb_comp_s] at h
    obtain ⟨c, hc, h⟩ := rb_cf_mem _ h
    obtain ⟨ho, s', rfl, h'⟩ := rb_pi_mem h
    by_cases hcN : c < N
    · have hb : t.testBit c = false := by
        unfold rb_ok at ho
        rw [if_pos hcN] at ho
        cases e : t.testBit c
        · rfl
        · rw [e] at ho; simp at ho
      rw [show rb_nx N t c = t + 2 ^ c from if_pos hcN, show rb_np N p c = p + 1 from if_pos hcN] at h'
      exact ⟨hcN, hb, ih _ _ _ (by omega) (rb_mf hN ht hcN hb).1 h'⟩
    · unfold rb_ok at ho
      rw [if_neg hcN] at ho
      have := of_decide_eq_true ho
      omega
end
section
/-! G: the search as a stack; what is still to come -/
def rb_tk (N : Nat) : List Nat → Nat
  | [] => 0
  | c :: st => rb_nx N (rb_tk N st) c
def rb_pl (N : Nat) : List Nat → Nat
  | [] => 0
  | c :: st => rb_np N (rb_pl N st) c
def rb_AR (a : Nat → Int32) : List Nat → Prop
  | [] => True
  | c :: st => a st.length = nI c ∧ rb_AR a st
def rb_VS (N : Nat) : List Nat → Prop
  | [] => True
  | c :: st => c ≤ N ∧ (c < N → (rb_tk N st).testBit c = false) ∧ rb_VS N st
def rb_rm (N k : Nat) (B : Nat → Bool) (st : List Nat) (f : Nat) : List (List Nat) :=
  (rb_cf N (rb_pi N k B (N - st.length - 1) (rb_tk N st) (rb_pl N st)) (N + 1 - f)).map (fun s => st.reverse ++ s)
def rb_all (N k : Nat) (B : Nat → Bool) (st : List Nat) : List (List Nat) :=
  (rb_comp N k B (N - st.length) (rb_tk N st) (rb_pl N st)).map (fun s => st.reverse ++ s)
def rb_up (N k : Nat) (B : Nat → Bool) : List Nat → List (List Nat)
  | [] => []
  | c :: st => rb_rm N k B st (c + 1) ++ rb_up N k B st
theorem rb_rm_0 {N k : Nat} {B : Nat → Bool} {st : List Nat} (h : st.length < N) : rb_rm N k B st 0 = rb_all N k B st := by
  unfold rb_rm rb_all
  obtain ⟨d, hd⟩ : ∃ d, N - st.length = d + 1 := ⟨N - st.length - 1, by omega⟩
  rw [hd, Nat.add_sub_cancel, rb_comp_s]
  rfl
theorem rb_all_N {N k : Nat} {B : Nat → Bool} {st : List Nat} (h : st.length = N) : rb_all N k B st = [st.reverse] := by
  unfold rb_all
  rw [h, Nat.sub_self]
  show [st.reverse ++ []] = _
  rw [List.append_nil]
theorem rb_rm_end {N k : Nat} {B : Nat → Bool} {st : List Nat} {f : Nat} (h : N < f) : rb_rm N k B st f = [] := by
  unfold rb_rm
  rw [show N + 1 - f = 0 by omega]
  rfl
theorem rb_rm_skip {N k : Nat} {B : Nat → Bool} {st : List Nat} {f : Nat} (hf : f ≤ N) (h : rb_ok N k B (N - st.length - 1) (rb_tk N st) (rb_pl N st) f = false) : rb_rm N k B st f = rb_rm N k B st (f + 1) := by
  unfold rb_rm
  rw [show N + 1 - f = (N - f) + 1 by omega, rb_cf_s, show N - (N - f) = f by omega, show N + 1 - (f + 1) = N - f by omega]
  rw [show rb_pi N k B (N - st.length - 1) (rb_tk N st) (rb_pl N st) f = [] from if_neg (by rw [h]; decide)]
  rfl
theorem rb_rm_take {N k : Nat} {B : Nat → Bool} {st : List Nat} {f : Nat} (hf : f ≤ N) (h : rb_ok N k B (N - st.length - 1) (rb_tk N st) (rb_pl N st) f = true) :
    rb_rm N k B st f ++ rb_up N k B st = rb_all N k B (f :: st) ++ rb_up N k B (f :: st) := by
  have e : rb_rm N k B st f = rb_all N k B (f :: st) ++ rb_rm N k B st (f + 1) := by
    unfold rb_rm rb_all
    rw [show N + 1 - f = (N - f) + 1 by omega, rb_cf_s, show N - (N - f) = f by omega, show N + 1 - (f + 1) = N - f by omega, List.map_append]
    rw [show rb_pi N k B (N - st.length - 1) (rb_tk N st) (rb_pl N st) f = _ from if_pos h, List.map_map]
    congr 1
    rw [List.length_cons, show N - (st.length + 1) = N - st.length - 1 by omega]
    refine List.map_congr_left (fun s _ => ?_)
    show st.reverse ++ f :: s = (f :: st).reverse ++ s
    rw [List.reverse_cons, List.append_assoc]
    rfl
  rw [e, List.append_assoc]
  rfl
theorem rb_skips {N k : Nat} {B : Nat → Bool} {st : List Nat} {f : Nat} : ∀ (j : Nat), f + j ≤ N + 1 → (∀ i, i < j → rb_ok N k B (N - st.length - 1) (rb_tk N st) (rb_pl N st) (f + i) = false) → rb_rm N k B st f = rb_rm N k B st (f + j) := by
  intro j
  induction j with
  | zero => intro _ _; rfl
  | succ j ih =>
    intro h1 h2
    rw [ih (by omega) (fun i hi => h2 i (by omega)), rb_rm_skip (by omega) (h2 j (by omega))]
    rfl
/-! stacks and the cursor's fields -/
theorem rb_AR_u {a : Nat → Int32} {x : Int32} : ∀ (st : List Nat) (n : Nat), st.length ≤ n → rb_AR a st → rb_AR (upd a n x) st := by
  intro st
  induction st with
  | nil => intro n _ _; exact True.intro
  | cons c st ih =>
    intro n hn h
    rw [List.length_cons] at hn
    exact ⟨by rw [pk_un (by omega)]; exact h.1, ih n (by omega) h.2⟩
theorem rb_AR_put {a : Nat → Int32} {st : List Nat} {c : Nat} (h : rb_AR a st) : rb_AR (upd a st.length (nI c)) (c :: st) :=
  ⟨pk_us, rb_AR_u st _ (Nat.le_refl _) h⟩
theorem rb_AR_get {a : Nat → Int32} : ∀ (st : List Nat), rb_AR a st → ∀ i, i < st.length → a i = nI (st.reverse.getD i 0) := by
  intro st
  induction st with
  | nil => intro _ i hi; exact absurd hi (Nat.not_lt_zero _)
  | cons c st ih =>
    intro h i hi
    rw [List.reverse_cons, List.getD_eq_getElem?_getD]
    rw [List.length_cons] at hi
    by_cases e : i = st.length
    · subst e
      rw [List.getElem?_append_right (by rw [List.length_reverse]; exact Nat.le_refl _), List.length_reverse, Nat.sub_self]
      exact h.1
    · rw [List.getElem?_append_left (by rw [List.length_reverse]; omega), ← List.getD_eq_getElem?_getD]
      exact ih h.2 i (by omega)
theorem rb_VS_f {N : Nat} (hN : N ≤ 6) : ∀ (st : List Nat), rb_VS N st → rb_tk N st < 2 ^ N ∧ rb_pc (rb_tk N st) = rb_pl N st ∧ rb_pl N st ≤ st.length := by
  intro st
  induction st with
  | nil => intro _; exact ⟨Nat.two_pow_pos N, (by show rb_pc 0 = 0; decide), Nat.le_refl _⟩
  | cons c st ih =>
    intro h
    obtain ⟨h1, h2, h3⟩ := h
    obtain ⟨i1, i2, i3⟩ := ih h3
    show rb_nx N (rb_tk N st) c < 2 ^ N ∧ rb_pc (rb_nx N (rb_tk N st) c) = rb_np N (rb_pl N st) c ∧ rb_np N (rb_pl N st) c ≤ (c :: st).length
    rw [List.length_cons]
    unfold rb_nx rb_np
    by_cases hc : c < N
    · rw [if_pos hc, if_pos hc]
      obtain ⟨m1, m2⟩ := rb_mf hN i1 hc (h2 hc)
      exact ⟨m1, by omega, by omega⟩
    · rw [if_neg hc, if_neg hc]
      exact ⟨i1, i2, by omega⟩
/-! the measure of the search -/
def rb_T (N : Nat) : Nat → Nat
  | 0 => 0
  | j + 1 => (N + 1) * (rb_T N j + 2)
def rb_um (N : Nat) : List Nat → Nat
  | [] => 0
  | c :: st => 1 + (N - c) * (rb_T N (N - st.length - 1) + 2) + rb_um N st
def rb_mu (N : Nat) (st : List Nat) (f : Nat) : Nat := if st.length = N then rb_um N st else (N + 1 - f) * (rb_T N (N - st.length - 1) + 2) + rb_um N st
theorem rb_mu_put {N : Nat} {st : List Nat} {f c : Nat} (h : st.length < N) (hc : c ≤ N) (hf : f ≤ c) : rb_mu N (c :: st) 0 < rb_mu N st f := by
  have a : rb_mu N st f = (N + 1 - f) * (rb_T N (N - st.length - 1) + 2) + rb_um N st := if_neg (by omega)
  have b : (N + 1 - c) * (rb_T N (N - st.length - 1) + 2) ≤ (N + 1 - f) * (rb_T N (N - st.length - 1) + 2) := Nat.mul_le_mul_right _ (by omega)
  have c1 : (N + 1 - c) * (rb_T N (N - st.length - 1) + 2) = (N - c) * (rb_T N (N - st.length - 1) + 2) + (rb_T N (N - st.length - 1) + 2) := by
    rw [show N + 1 - c = (N - c) + 1 by omega, Nat.succ_mul]
  have u : rb_um N (c :: st) = 1 + (N - c) * (rb_T N (N - st.length - 1) + 2) + rb_um N st := rfl
  have e : rb_mu N (c :: st) 0 ≤ rb_T N (N - st.length - 1) + rb_um N (c :: st) := by
    unfold rb_mu
    rw [List.length_cons]
    split
    · omega
    · obtain ⟨d, hd⟩ : ∃ d, N - st.length - 1 = d + 1 := ⟨N - st.length - 2, by omega⟩
      rw [hd, show N - (st.length + 1) - 1 = d by omega]
      exact Nat.le_refl _
  omega
theorem rb_mu_back {N : Nat} {st : List Nat} {c f : Nat} (h : st.length < N) : rb_mu N st (c + 1) < rb_mu N (c :: st) f := by
  have a : rb_mu N st (c + 1) = (N + 1 - (c + 1)) * (rb_T N (N - st.length - 1) + 2) + rb_um N st := if_neg (by omega)
  have u : rb_um N (c :: st) = 1 + (N - c) * (rb_T N (N - st.length - 1) + 2) + rb_um N st := rfl
  have b : rb_um N (c :: st) ≤ rb_mu N (c :: st) f := by
    unfold rb_mu
    split <;> omega
  rw [show N + 1 - (c + 1) = N - c by omega] at a
  omega
end
section
/-! H: lines -/
def rb_cnt (S : Nat) : Nat → Nat
  | 0 => 0
  | b + 1 => rb_cnt S b + S / 2 ^ b % 2
theorem rb_cnt_p (S a : Nat) : ∀ b, rb_cnt S (a + b) = rb_cnt S a + rb_cnt (S / 2 ^ a) b := by
  intro b
  induction b with
  | zero => rfl
  | succ b ih =>
    show rb_cnt S (a + b) + S / 2 ^ (a + b) % 2 = rb_cnt S a + (rb_cnt (S / 2 ^ a) b + S / 2 ^ a / 2 ^ b % 2)
    rw [ih, Nat.pow_add, Nat.div_div_eq_div_mul]
    omega
theorem rb_bit (x i : Nat) : x / 2 ^ i % 2 = if x.testBit i then 1 else 0 := by
  rw [Nat.testBit_eq_decide_div_mod_eq]
  rcases Nat.mod_two_eq_zero_or_one (x / 2 ^ i) with h | h
  · rw [h]; rfl
  · rw [h]; rfl
theorem rb_cnt_m {S N : Nat} : ∀ b, b ≤ N → rb_cnt S b = rb_cnt (S % 2 ^ N) b := by
  intro b
  induction b with
  | zero => intro _; rfl
  | succ b ih =>
    intro h
    show rb_cnt S b + S / 2 ^ b % 2 = rb_cnt (S % 2 ^ N) b + S % 2 ^ N / 2 ^ b % 2
    rw [ih (by omega), rb_bit, rb_bit, Nat.testBit_mod_two_pow, decide_eq_true (show b < N by omega), Bool.true_and]
theorem rb_cntN : ∀ N, N < 7 → ∀ m, m < 64 → (m < 2 ^ N → rb_cnt m N = rb_pc m) := by decide +kernel
theorem rb_cnt2 {N R C : Nat} (hN : N ≤ 6) (hR : R < 2 ^ N) (hC : C < 2 ^ N) : rb_cnt (2 ^ N * C + R) (N + N) = rb_pc R + rb_pc C := by
  have h6 := rb_p6 hN
  rw [rb_cnt_p, rb_cnt_m N (Nat.le_refl N), Nat.mul_add_mod, Nat.mod_eq_of_lt hR, Nat.mul_add_div (Nat.two_pow_pos N), Nat.div_eq_of_lt hR, Nat.add_zero, rb_cntN N (by omega) R (by omega) hR, rb_cntN N (by omega) C (by omega) hC]
theorem rb_pcm {a b : Nat} (h : ∀ c, c < 6 → a.testBit c = true → b.testBit c = true) : rb_pc a ≤ rb_pc b := by
  have q : ∀ c, c < 6 → a / 2 ^ c % 2 ≤ b / 2 ^ c % 2 := by
    intro c hc
    rw [rb_bit, rb_bit]
    cases e : a.testBit c
    · exact Nat.zero_le _
    · rw [h c hc e]; exact Nat.le_refl _
  have q0 := q 0 (by decide)
  have q1 := q 1 (by decide)
  have q2 := q 2 (by decide)
  have q3 := q 3 (by decide)
  have q4 := q 4 (by decide)
  have q5 := q 5 (by decide)
  simp only [Nat.reducePow, Nat.div_one] at q0 q1 q2 q3 q4 q5
  unfold rb_pc
  omega
/-- o is the mask of the columns outside of the rows R -/
def rb_out (N : Nat) (B : Nat → Bool) (R o : Nat) : Prop := o < 2 ^ N ∧ ∀ c, c < N → (o.testBit c = true ↔ ∃ r, r < N ∧ R.testBit r = false ∧ B (6 * r + c) = true)
def rb_cov (N : Nat) (B : Nat → Bool) (S : Nat) : Prop := ∀ r, r < N → ∀ c, c < N → B (6 * r + c) = true → S.testBit r = true ∨ S.testBit (N + c) = true
theorem rb_lines {N lx ly : Nat} {B : Nat → Bool} (hN : N ≤ 6)
    (x0 : lx ≤ N) (x1 : ∀ R, R < 2 ^ N → ∃ o, rb_out N B R o ∧ lx ≤ rb_pc R + rb_pc o) (x2 : lx = N ∨ ∃ R o, R < 2 ^ N ∧ rb_out N B R o ∧ rb_pc R + rb_pc o = lx)
    (y1 : ∀ S, S < 2 ^ (N + N) → rb_cov N B S → ly ≤ rb_cnt S (N + N)) (y2 : ly = N + N ∨ ∃ S, S < 2 ^ (N + N) ∧ rb_cov N B S ∧ rb_cnt S (N + N) = ly) : lx = ly := by
  have hp := Nat.two_pow_pos N
  have lt2 : ∀ R C, R < 2 ^ N → C < 2 ^ N → 2 ^ N * C + R < 2 ^ (N + N) := by
    intro R C hR hC
    rw [Nat.pow_add]
    have : 2 ^ N * (C + 1) ≤ 2 ^ N * 2 ^ N := Nat.mul_le_mul_left _ hC
    rw [Nat.mul_add, Nat.mul_one] at this
    omega
  have tb1 : ∀ R C r, R < 2 ^ N → r < N → (2 ^ N * C + R).testBit r = R.testBit r := by
    intro R C r hR hr
    rw [Nat.testBit_two_pow_mul_add C hR r, if_pos hr]
  have tb2 : ∀ R C c, R < 2 ^ N → (2 ^ N * C + R).testBit (N + c) = C.testBit c := by
    intro R C c hR
    rw [Nat.testBit_two_pow_mul_add C hR (N + c), if_neg (by omega), Nat.add_sub_cancel_left]
  apply Nat.le_antisymm
  · rcases y2 with h | ⟨S, hS, hcov, hcnt⟩
    · omega
    · have hR : S % 2 ^ N < 2 ^ N := Nat.mod_lt _ hp
      have hC : S / 2 ^ N < 2 ^ N := by
        rw [Nat.pow_add] at hS
        exact Nat.div_lt_of_lt_mul hS
      have e : 2 ^ N * (S / 2 ^ N) + S % 2 ^ N = S := Nat.div_add_mod S (2 ^ N)
      obtain ⟨o, ho, hl⟩ := x1 _ hR
      have hle : rb_pc o ≤ rb_pc (S / 2 ^ N) := by
        refine rb_pcm (fun c hc ht => ?_)
        by_cases hcN : c < N
        · obtain ⟨r, hr, hb, hB⟩ := (ho.2 c hcN).mp ht
          rcases hcov r hr c hcN hB with h | h
          · rw [← e, tb1 _ _ _ hR hr, hb] at h
            exact absurd h (by decide)
          · rw [← e, tb2 _ _ _ hR] at h
            exact h
        · rw [Nat.testBit_lt_two_pow (Nat.lt_of_lt_of_le ho.1 (Nat.pow_le_pow_right (by decide) (by omega)))] at ht
          exact absurd ht (by decide)
      have := rb_cnt2 hN hR hC
      rw [e] at this
      omega
  · rcases x2 with h | ⟨R, o, hR, ho, hs⟩
    · have hR : 2 ^ N - 1 < 2 ^ N := by omega
      have c0 : rb_cov N B (2 ^ N * 0 + (2 ^ N - 1)) := by
        intro r hr c _ _
        left
        rw [tb1 _ _ _ hR hr, Nat.testBit_two_pow_sub_one, decide_eq_true hr]
      have := y1 _ (lt2 _ 0 hR hp) c0
      rw [rb_cnt2 hN hR hp, rb_pcF N (by omega)] at this
      have z : rb_pc 0 = 0 := rfl
      omega
    · have c0 : rb_cov N B (2 ^ N * o + R) := by
        intro r hr c hc hB
        rw [tb1 _ _ _ hR hr, tb2 _ _ _ hR]
        cases hb : R.testBit r
        · right
          exact (ho.2 c hc).mpr ⟨r, hr, hb, hB⟩
        · left; rfl
      have := y1 _ (lt2 _ o hR ho.1) c0
      rw [rb_cnt2 hN hR ho.1] at this
      omega
end
section
/-! I: bits of Int32 -/
theorem rb_sl : ∀ n, n < 32 → ((nI n &&& 31).toBitVec.smod 32).toNat = n := by decide +kernel
theorem rb_or (a b : Nat) : nI a ||| nI b = nI (a ||| b) := by
  apply Int32.toBitVec_inj.1
  show BitVec.ofNat 32 a ||| BitVec.ofNat 32 b = BitVec.ofNat 32 (a ||| b)
  apply BitVec.eq_of_getLsbD_eq
  intro i hi
  simp [hi]
theorem rb_1shl : ∀ c, c < 16 → (1 : Int32) <<< (nI c &&& 31) = nI (2 ^ c) := by decide +kernel
theorem rb_shr {n c : Nat} (h : n < 2 ^ 31) (hc : c < 32) : nI n >>> (nI c &&& 31) = nI (n / 2 ^ c) := pk_shrN h _ c (rb_sl c hc)
theorem rb_and1 {n : Nat} (h : n < 2 ^ 31) : nI n &&& 1 = nI (n % 2) := pk_andN (by omega) 1 (by decide)
theorem rb_shr1 {n c : Nat} (h : n < 2 ^ 31) (hc : c < 32) : (nI n >>> (nI c &&& 31)) &&& 1 = nI (n / 2 ^ c % 2) := by
  rw [rb_shr h hc, rb_and1 (Nat.lt_of_le_of_lt (Nat.div_le_self _ _) h)]
theorem rb_shr1_0 {n c : Nat} (h : n < 2 ^ 31) (hc : c < 32) : (nI n >>> (nI c &&& 31)) &&& 1 = 0 ↔ n.testBit c = false := by
  rw [rb_shr1 h hc, rb_bit]
  cases n.testBit c
  · exact ⟨fun _ => rfl, fun _ => rfl⟩
  · exact ⟨fun e => absurd e (by decide), fun e => absurd e (by decide)⟩
theorem rb_andb : ∀ m, m < 64 → ∀ c, c < 6 → ((nI m &&& nI (2 ^ c) = 0) ↔ m.testBit c = false) := by decide +kernel
theorem rb_orb : ∀ m, m < 64 → ∀ c, c < 6 → (m.testBit c = false → m ||| 2 ^ c = m + 2 ^ c) := by decide +kernel
theorem rb_clr : ∀ m, m < 64 → ∀ c, c < 6 → (m.testBit c = false → nI (m + 2 ^ c) &&& (nI (2 ^ c) ^^^ (-1)) = nI m) := by decide +kernel
theorem rb_or_ltk : rb_chk3 64 6 7 (fun m c N => decide ((m < 2 ^ N ∧ c < N) → m ||| 2 ^ c < 2 ^ N)) = true := by decide +kernel
theorem rb_or_lt {N m c : Nat} (hN : N ≤ 6) (hm : m < 2 ^ N) (hc : c < N) : m ||| 2 ^ c < 2 ^ N :=
  of_decide_eq_true (rb_chk3_e rb_or_ltk (i := m) (j := c) (l := N) (by have := rb_p6 hN; omega) (by omega) (by omega)) ⟨hm, hc⟩
theorem rb_2c {c : Nat} (h : c < 16) : 2 ^ c < 2 ^ 31 := Nat.pow_lt_pow_right (by decide) (by omega)
theorem rb_c6 {c : Nat} (h : c < 6) : 2 ^ c < 64 := Nat.pow_lt_pow_right (a := 2) (by decide) h
theorem rb_pc_lt (m : Nat) : rb_pc m ≤ 6 := by unfold rb_pc; omega
theorem rb_cnt6 (m : Nat) : rb_cnt m 6 = rb_pc m := by
  show 0 + m / 2 ^ 0 % 2 + m / 2 ^ 1 % 2 + m / 2 ^ 2 % 2 + m / 2 ^ 3 % 2 + m / 2 ^ 4 % 2 + m / 2 ^ 5 % 2 = _
  unfold rb_pc
  simp only [Nat.reducePow, Nat.div_one, Nat.zero_add]
theorem rb_cnt_le (S : Nat) : ∀ b, rb_cnt S b ≤ b := by
  intro b
  induction b with
  | zero => exact Nat.le_refl _
  | succ b ih => show rb_cnt S b + S / 2 ^ b % 2 ≤ b + 1; omega
/-! J: the i-th placement -/
theorem rb_pil {N k d t p c : Nat} {B : Nat → Bool} (hN : N ≤ 6) (hd : d + 1 ≤ N) (ht : t < 2 ^ N) (hp : rb_pc t = p) (h1 : p ≤ k) (h2 : k ≤ p + (d + 1)) (ha : rb_al N B (N - (d + 1)) t c = true) :
    nI (rb_pi N k B d t p c).length = rb_CB N B rb_w1 k d (rb_nx N t c) := by
  obtain ⟨n1, n2⟩ := rb_nx_f hN ht ha
  unfold rb_pi
  by_cases hcN : c < N
  · have eok : rb_ok N k B d t p c = (decide (p < k) && (!t.testBit c && B (6 * (N - (d + 1)) + c))) := if_pos hcN
    have eal : rb_al N B (N - (d + 1)) t c = (!t.testBit c && B (6 * (N - (d + 1)) + c)) := if_pos hcN
    have enp : rb_np N p c = p + 1 := if_pos hcN
    by_cases hpk : p < k
    · rw [if_pos (by rw [eok, ← eal, ha, decide_eq_true hpk]; rfl), List.length_map]
      exact (rb_len hN (by omega) n1 (by rw [n2, hp]) (by omega) (by omega)).symm
    · rw [if_neg (by rw [eok, decide_eq_false hpk]; simp), rb_CB_hi hN d _ n1 (by rw [n2, hp, enp]; omega)]
      rfl
  · have eok : rb_ok N k B d t p c = decide (k ≤ p + d) := if_neg hcN
    have enp : rb_np N p c = p := if_neg hcN
    by_cases hk : k ≤ p + d
    · rw [if_pos (by rw [eok, decide_eq_true hk]), List.length_map]
      exact (rb_len hN (by omega) n1 (by rw [n2, hp]) (by omega) (by omega)).symm
    · rw [if_neg (by rw [eok, decide_eq_false hk]; simp), rb_CB_lo hN d _ n1 (by rw [n2, hp, enp]; omega)]
      rfl
theorem rb_pin {N k d t p c : Nat} {B : Nat → Bool} (hc : c < N) (ha : rb_al N B (N - (d + 1)) t c = false) : rb_pi N k B d t p c = [] := by
  unfold rb_pi
  have eok : rb_ok N k B d t p c = (decide (p < k) && (!t.testBit c && B (6 * (N - (d + 1)) + c))) := if_pos hc
  have eal : rb_al N B (N - (d + 1)) t c = (!t.testBit c && B (6 * (N - (d + 1)) + c)) := if_pos hc
  rw [if_neg (by rw [eok, ← eal, ha]; simp)]
theorem rb_pi_lt {N k d t p c : Nat} {B : Nat → Bool} (hN : N ≤ 6) (hd : d + 1 ≤ N) : (rb_pi N k B d t p c).length < 2 ^ 31 := by
  unfold rb_pi
  split
  · rw [List.length_map]; exact rb_comp_lt hN (by omega)
  · exact Nat.two_pow_pos 31
/-- within the piece -/
theorem rb_ix_in {N k d t p e i : Nat} {B : Nat → Bool} {s : List Nat} (h : (rb_cf N (rb_pi N k B d t p) (e + 1))[i]? = some s) (hi : i < (rb_pi N k B d t p (N - e)).length) :
    rb_ok N k B d t p (N - e) = true ∧ ∃ s', s = (N - e) :: s' ∧ (rb_comp N k B d (rb_nx N t (N - e)) (rb_np N p (N - e)))[i]? = some s' := by
  rw [rb_cf_s, List.getElem?_append_left hi] at h
  unfold rb_pi at h
  split at h
  · next ho =>
    rw [List.getElem?_map, Option.map_eq_some_iff] at h
    obtain ⟨s', h1, h2⟩ := h
    exact ⟨ho, s', h2.symm, h1⟩
  · exact absurd h (by simp)
/-- behind the piece -/
theorem rb_ix_on {N k d t p e i : Nat} {B : Nat → Bool} {s : List Nat} (h : (rb_cf N (rb_pi N k B d t p) (e + 1))[i]? = some s) (hi : (rb_pi N k B d t p (N - e)).length ≤ i) :
    (rb_cf N (rb_pi N k B d t p) e)[i - (rb_pi N k B d t p (N - e)).length]? = some s := by
  rw [rb_cf_s, List.getElem?_append_right hi] at h
  exact h
end
section
/-! K: the signed sum forwards -/
theorem rb_gtm : ∀ m, m < 64 → ∀ c, c < 6 → (m.testBit c = true → rb_gt (m - 2 ^ c) c = rb_gt m c) := by decide +kernel
theorem rb_signed {N : Nat} {B : Nat → Bool} {W : Nat → Int32} {S : Nat → Int32} (hN : N ≤ 6) (h0 : S 0 = 1)
    (hS : ∀ m, 0 < m → m < 2 ^ N → S m = rb_sum (fun c => if m.testBit c && B (6 * (rb_pc m - 1) + c) then W (6 * (rb_pc m - 1) + c) * S (m - 2 ^ c) * rb_sg (rb_gt m c) else 0) N) :
    S (2 ^ N - 1) = rb_CB N B (rb_wg N W) N N 0 := by
  have hp : 0 < 2 ^ N := Nat.two_pow_pos N
  have h6 := rb_p6 hN
  have step : ∀ r, r < N → rb_sum (fun m => (if rb_pc m = r then S m else 0) * rb_CB N B (rb_wg N W) N (N - r) m) (2 ^ N) = rb_sum (fun m => (if rb_pc m = r + 1 then S m else 0) * rb_CB N B (rb_wg N W) N (N - (r + 1)) m) (2 ^ N) := by
    intro r hr
    obtain ⟨d, hd⟩ : ∃ d, N = r + 1 + d := ⟨N - (r + 1), by omega⟩
    have d1 : N - r = d + 1 := by omega
    have d2 : N - (r + 1) = d := by omega
    have d3 : N - (d + 1) = r := by omega
    rw [d1, d2]
    refine rb_dual (v := fun m => if rb_pc m = r then S m else 0) (v' := fun m => if rb_pc m = r + 1 then S m else 0) (fun m => if_neg (Nat.lt_irrefl N)) (fun m hm => ?_)
    rw [d3]
    have z : (if rb_pc m = r then S m else 0) * rb_CB N B (rb_wg N W) N d m = 0 := by
      by_cases e : rb_pc m = r
      · rw [rb_CB_lo hN d m hm (by omega), Int32.mul_zero]
      · rw [if_neg e, Int32.zero_mul]
    have y : (if rb_pc m = r + 1 then S m else 0) = rb_row N B (rb_wg N W) r (fun m => if rb_pc m = r then S m else 0) m := by
      unfold rb_row
      by_cases e : rb_pc m = r + 1
      · have hm0 : 0 < m := by
          rcases Nat.eq_zero_or_pos m with rfl | h
          · exact absurd e (by show ¬ 0 = r + 1; omega)
          · exact h
        rw [if_pos e, hS m hm0 hm, e, Nat.add_sub_cancel]
        refine rb_sum_c (fun c hc => ?_)
        cases hb : m.testBit c
        · rfl
        · cases B (6 * r + c)
          · rfl
          · have := (rb_mg hN hm hc hb).2.2
            show W (6 * r + c) * S (m - 2 ^ c) * rb_sg (rb_gt m c) = (if rb_pc (m - 2 ^ c) = r then S (m - 2 ^ c) else 0) * rb_wg N W r (m - 2 ^ c) c
            rw [if_pos (by omega), show rb_wg N W r (m - 2 ^ c) c = W (6 * r + c) * rb_sg (rb_gt (m - 2 ^ c) c) from if_pos hc, rb_gtm m (by omega) c (by omega) hb]
            grind
      · rw [if_neg e]
        refine (rb_sum_z (fun c hc => ?_)).symm
        cases hb : m.testBit c
        · rfl
        · have := (rb_mg hN hm hc hb).2.2
          show (if (true && B (6 * r + c)) = true then (if rb_pc (m - 2 ^ c) = r then S (m - 2 ^ c) else 0) * rb_wg N W r (m - 2 ^ c) c else 0) = 0
          rw [if_neg (show ¬ rb_pc (m - 2 ^ c) = r by omega), Int32.zero_mul]
          exact ite_self _
    show (if rb_pc m = r + 1 then S m else 0) * rb_CB N B (rb_wg N W) N d m = (if rb_pc m = r then S m else 0) * rb_CB N B (rb_wg N W) N d m + rb_row N B (rb_wg N W) r (fun m => if rb_pc m = r then S m else 0) m * rb_CB N B (rb_wg N W) N d m
    rw [z, Int32.zero_add, y]
  have all : ∀ r, r ≤ N → rb_sum (fun m => (if rb_pc m = 0 then S m else 0) * rb_CB N B (rb_wg N W) N N m) (2 ^ N) = rb_sum (fun m => (if rb_pc m = r then S m else 0) * rb_CB N B (rb_wg N W) N (N - r) m) (2 ^ N) := by
    intro r
    induction r with
    | zero => intro _; rfl
    | succ r ih => intro hr; rw [ih (by omega), step r (by omega)]
  have a0 : rb_sum (fun m => (if rb_pc m = 0 then S m else 0) * rb_CB N B (rb_wg N W) N N m) (2 ^ N) = rb_CB N B (rb_wg N W) N N 0 := by
    rw [rb_sum_d (a := 0) hp (fun m hm hne => by rw [if_neg (fun e => hne (rb_pc0 m (by omega) e)), Int32.zero_mul]), if_pos (by rfl), h0, Int32.one_mul]
  have aN : rb_sum (fun m => (if rb_pc m = N then S m else 0) * rb_CB N B (rb_wg N W) N (N - N) m) (2 ^ N) = S (2 ^ N - 1) := by
    rw [rb_sum_d (a := 2 ^ N - 1) (by omega) (fun m hm hne => by rw [if_neg (fun e => hne ((rb_pcN N (by omega) m (by omega) hm).2 e)), Int32.zero_mul]), if_pos (rb_pcF N (by omega)), Nat.sub_self, rb_CB_0, if_pos (rb_pcF N (by omega)), Int32.mul_one]
  rw [← aN, ← a0]
  exact (all N (Nat.le_refl N)).symm
/-! what the queries answer, over the one list -/
def rb_PL (N k : Nat) (B : Nat → Bool) : List (List Nat) := rb_comp N k B N 0 0
theorem rb_PLw {N k : Nat} {B : Nat → Bool} (w : Nat → Nat → Nat → Int32) (hN : N ≤ 6) (hk : k ≤ N) : rb_ls (rb_PW N w 0 0) (rb_PL N k B) = rb_CB N B w k N 0 := by
  have := rb_LS (k := k) (B := B) (w := w) hN N 0 0 (Nat.le_refl N) (Nat.two_pow_pos N) rfl (Nat.zero_le k) (by omega)
  rw [Nat.sub_self] at this
  exact this
theorem rb_PLn {N k : Nat} {B : Nat → Bool} (hN : N ≤ 6) (hk : k ≤ N) : rb_CB N B rb_w1 k N 0 = nI (rb_PL N k B).length :=
  rb_len hN (Nat.le_refl N) (Nat.two_pow_pos N) rfl (Nat.zero_le k) (by omega)
theorem rb_PLlt {N k : Nat} {B : Nat → Bool} (hN : N ≤ 6) : (rb_PL N k B).length < 2 ^ 31 := rb_comp_lt hN (Nat.le_refl N)
theorem rb_PLm {N k : Nat} {B : Nat → Bool} {p : List Nat} (h : p ∈ rb_PL N k B) : p.length = N ∧ ∀ c, c ∈ p → c ≤ N := rb_comp_mem N 0 0 p h
theorem rb_PLsum {N k : Nat} {B : Nat → Bool} {W : Nat → Int32} (hN : N ≤ 6) (hk : k ≤ N) : rb_ls (rb_wo N W 0) (rb_PL N k B) = rb_CB N B (rb_wd N W) k N 0 := by
  rw [← rb_PLw _ hN hk]
  exact rb_ls_c (fun p _ => (rb_wo_PW p 0 0).symm)
theorem rb_PLthr {N k r0 c0 : Nat} {B : Nat → Bool} (hN : N ≤ 6) (hk : k ≤ N) (hr : r0 < N) : rb_ls (fun p => if p.getD r0 0 = c0 then 1 else 0) (rb_PL N k B) = rb_CB N B (rb_wf r0 c0) k N 0 := by
  rw [← rb_PLw _ hN hk]
  refine rb_ls_c (fun p hp => ?_)
  rw [rb_wf_PW p 0 0 (Or.inr (by rw [(rb_PLm hp).1]; omega)), if_neg (Nat.not_lt_zero r0)]
  rfl
theorem rb_PLsg {N : Nat} {B : Nat → Bool} {W : Nat → Int32} (hN : N ≤ 6) : rb_ls (fun p => rb_sg (rb_iv p) * rb_wo N W 0 p) (rb_PL N N B) = rb_CB N B (rb_wg N W) N N 0 := by
  rw [← rb_PLw _ hN (Nat.le_refl N)]
  refine rb_ls_c (fun p hp => ?_)
  rw [rb_wg_PW hN p 0 0 (Nat.two_pow_pos N) (rb_full hN N 0 0 p (by omega) (Nat.two_pow_pos N) hp), rb_gs0, Nat.add_zero]
theorem rb_PLhit {N kk : Nat} {h : Nat → Nat → Nat} (hN : N ≤ 6) : rb_ls (fun p => if rb_hi h 0 p = kk then 1 else 0) (rb_PL N N (fun _ => true)) = rb_HB N h kk N 0 0 := by
  have := rb_HL (h := h) (kk := kk) hN N 0 0 0 (Nat.le_refl N) (Nat.two_pow_pos N) rfl (by omega)
  rw [Nat.sub_self] at this
  rw [← this]
  exact rb_ls_c (fun p _ => by rw [Nat.zero_add])
end
section
/-! L: the reference's search, walked -/
theorem rb_ix (r c : Nat) : 6 * nI r + nI c = nI (6 * r + c) := by
  show nI 6 * nI r + nI c = _
  rw [pk_mul, nI_add]
theorem yb_put {post : SY → Prop} {N c : Nat} {any : Int32} {on w a : Nat → Int32} {st : List Nat} (hN : N ≤ 6) (hl : st.length < N) (hc : c ≤ N) (hv : rb_VS N st) (hb : c < N → (rb_tk N st).testBit c = false)
    (h : post (nI N, nI (st.length + 1), nI (rb_pl N (c :: st)), nI (rb_tk N (c :: st)), any, on, w, upd a st.length (nI c))) :
    wpY_put post (nI N, nI st.length, nI (rb_pl N st), nI (rb_tk N st), any, on, w, a) (nI c) := by
  unfold wpY_put
  dsimp only
  have h6 := rb_p6 hN
  obtain ⟨v1, v2, v3⟩ := rb_VS_f hN st hv
  refine ⟨vp_in_nI (by omega) (by decide), nm_r (e' := upd a st.length (nI c)) (by rw [nI_clamp (by omega)]) ?_⟩
  by_cases hcN : c < N
  · have e1 : rb_pl N (c :: st) = rb_pl N st + 1 := if_pos hcN
    have e2 : rb_tk N (c :: st) = rb_tk N st + 2 ^ c := if_pos hcN
    rw [e1, e2] at h
    refine br_f (by rw [nI_leI (by omega) (by omega)]; omega) (nm_r (nI_1 _) (nm_r ?_ (nm_r (nI_1 _) h)))
    rw [rb_1shl c (by omega), rb_or, rb_orb _ (by omega) c (by omega) (hb hcN)]
  · have e1 : rb_pl N (c :: st) = rb_pl N st := if_neg hcN
    have e2 : rb_tk N (c :: st) = rb_tk N st := if_neg hcN
    rw [e1, e2] at h
    exact br_t ((nI_leI (by omega) (by omega)).mpr (by omega)) (nm_r (nI_1 _) h)
theorem yb_back {post : Int32 → SY → Prop} {N c : Nat} {any : Int32} {on w a : Nat → Int32} {st : List Nat} (hN : N ≤ 6) (hl : st.length < N) (hv : rb_VS N (c :: st)) (ha : rb_AR a (c :: st))
    (h : post (nI c) (nI N, nI st.length, nI (rb_pl N st), nI (rb_tk N st), any, on, w, a)) :
    wpY_back post (nI N, nI (st.length + 1), nI (rb_pl N (c :: st)), nI (rb_tk N (c :: st)), any, on, w, a) := by
  unfold wpY_back
  dsimp only
  have h6 := rb_p6 hN
  obtain ⟨q1, q2, q3⟩ := hv
  obtain ⟨v1, v2, v3⟩ := rb_VS_f hN st q3
  refine nm_r (nI_pred _) ⟨vp_in_nI (by omega) (by decide), nm_r (e' := nI c) (by rw [nI_clamp (by omega)]; exact ha.1) ?_⟩
  by_cases hcN : c < N
  · have e1 : rb_pl N (c :: st) = rb_pl N st + 1 := if_pos hcN
    have e2 : rb_tk N (c :: st) = rb_tk N st + 2 ^ c := if_pos hcN
    rw [e1, e2]
    refine br_f (by rw [nI_leI (by omega) (by omega)]; omega) (nm_r (nI_pred _) (nm_r ?_ h))
    rw [rb_1shl c (by omega), rb_clr _ (by omega) c (by omega) (q2 hcN)]
  · have e1 : rb_pl N (c :: st) = rb_pl N st := if_neg hcN
    have e2 : rb_tk N (c :: st) = rb_tk N st := if_neg hcN
    rw [e1, e2]
    exact br_t ((nI_leI (by omega) (by omega)).mpr (by omega)) h
/-- what the board allows: anywhere, or on the board -/
def rb_HB2 (any : Int32) (on : Nat → Int32) (B : Nat → Bool) : Prop := ∀ x, x < 36 → (B x = true ↔ (any = 0 → ¬ on x = 0))
theorem yb_fits {post : Int32 → Prop} {N c : Nat} {any : Int32} {on w a : Nat → Int32} {B : Nat → Bool} {st : List Nat} (hN : N ≤ 6) (hB : rb_HB2 any on B) (hl : st.length < N) (hc : c < N) (hv : rb_VS N st)
    (h1 : (rb_tk N st).testBit c = false → B (6 * st.length + c) = true → post 1) (h0 : ((rb_tk N st).testBit c = false → B (6 * st.length + c) = false) → post 0) :
    wpY_fits post (nI N, nI st.length, nI (rb_pl N st), nI (rb_tk N st), any, on, w, a) (nI c) := by
  unfold wpY_fits
  dsimp only
  have h6 := rb_p6 hN
  obtain ⟨v1, v2, v3⟩ := rb_VS_f hN st hv
  have hx : 6 * st.length + c < 36 := by omega
  have hB' := hB _ hx
  rw [rb_shr1_0 (by omega) (by omega), rb_ix, nI_clamp (by omega)]
  refine br_c (fun t => br_c (fun z => ⟨vp_in_nI hx (by decide), br_c (fun o => h0 (fun _ => ?_)) (fun o => h1 t (hB'.mpr (fun _ => o)))⟩) (fun z => h1 t (hB'.mpr (fun q => absurd q z)))) (fun t => h0 (fun q => absurd q t))
  cases e : B (6 * st.length + c)
  · rfl
  · exact absurd o (hB'.mp e z)
theorem rb_ok_lt {N k c : Nat} {B : Nat → Bool} {st : List Nat} (hl : st.length < N) (hc : c < N) : rb_ok N k B (N - st.length - 1) (rb_tk N st) (rb_pl N st) c = (decide (rb_pl N st < k) && (!(rb_tk N st).testBit c && B (6 * st.length + c))) := by
  unfold rb_ok
  rw [if_pos hc, show N - (N - st.length - 1 + 1) = st.length by omega]
theorem rb_ok_N {N k : Nat} {B : Nat → Bool} {st : List Nat} : rb_ok N k B (N - st.length - 1) (rb_tk N st) (rb_pl N st) N = decide (k ≤ rb_pl N st + (N - st.length - 1)) := if_neg (Nat.lt_irrefl N)
theorem yb_go39 {post : Int32 → SY → Prop} {N k f : Nat} {any : Int32} {on w a : Nat → Int32} {B : Nat → Bool} {st : List Nat} (hN : N ≤ 6) (hl : st.length < N) (hv : rb_VS N st) (hf : f ≤ N + 1) (hk : k ≤ N)
    (hs : f ≤ N → rb_rm N k B st f = rb_rm N k B st N)
    (h1 : ∀ c, f ≤ c → c ≤ N → rb_VS N (c :: st) → rb_rm N k B st f ++ rb_up N k B st = rb_all N k B (c :: st) ++ rb_up N k B (c :: st) → post 1 (nI N, nI (st.length + 1), nI (rb_pl N (c :: st)), nI (rb_tk N (c :: st)), any, on, w, upd a st.length (nI c)))
    (h0 : rb_rm N k B st f = [] → post 0 (nI N, nI st.length, nI (rb_pl N st), nI (rb_tk N st), any, on, w, a)) :
    wY_goOn_39 post (nI f) (nI k) (nI N) (nI st.length) (nI (rb_pl N st)) (nI (rb_tk N st)) any on w a := by
  unfold wY_goOn_39
  obtain ⟨v1, v2, v3⟩ := rb_VS_f hN st hv
  by_cases hfN : N < f
  · exact br_t (nI_lt hfN (by omega)) (h0 (rb_rm_end hfN))
  · have es := hs (by omega)
    refine br_f (by rw [nI_ltI (by omega) (by omega)]; omega) ?_
    have e : nI (rb_pl N st) + nI N - nI st.length - 1 = nI (rb_pl N st + (N - st.length - 1)) := by
      rw [nI_add, pk_sub (by omega)]
      show _ - nI 1 = _
      rw [pk_sub (by omega)]
      exact congrArg nI (by omega)
    rw [e, nI_leI (by omega) (by omega)]
    refine br_c (fun q => ?_) (fun q => ?_)
    · have hv' : rb_VS N (N :: st) := ⟨Nat.le_refl N, fun z => absurd z (Nat.lt_irrefl N), hv⟩
      refine yb_put hN hl (Nat.le_refl N) hv (fun z => absurd z (Nat.lt_irrefl N)) (h1 N (by omega) (Nat.le_refl N) hv' ?_)
      rw [es]
      exact rb_rm_take (Nat.le_refl N) (by rw [rb_ok_N, decide_eq_true q])
    · refine h0 ?_
      rw [es, rb_rm_skip (Nat.le_refl N) (by rw [rb_ok_N, decide_eq_false q]), rb_rm_end (by omega)]
theorem yb_go2 {post : Int32 → SY → Prop} {N k f : Nat} {any : Int32} {on w a : Nat → Int32} {B : Nat → Bool} {st : List Nat} (hN : N ≤ 6) (hB : rb_HB2 any on B) (hl : st.length < N) (hv : rb_VS N st) (hf : f ≤ N + 1) (hk : k ≤ N)
    (h1 : ∀ c, f ≤ c → c ≤ N → rb_VS N (c :: st) → rb_rm N k B st f ++ rb_up N k B st = rb_all N k B (c :: st) ++ rb_up N k B (c :: st) → post 1 (nI N, nI (st.length + 1), nI (rb_pl N (c :: st)), nI (rb_tk N (c :: st)), any, on, w, upd a st.length (nI c)))
    (h0 : rb_rm N k B st f = [] → post 0 (nI N, nI st.length, nI (rb_pl N st), nI (rb_tk N st), any, on, w, a)) :
    ∀ (j d : Nat), f ≤ d → d ≤ N + 1 → N ≤ d + j → (f ≤ N → d ≤ N ∧ rb_rm N k B st f = rb_rm N k B st d) → wY_goOn_2 post (nI f) (nI k) (nI N) (nI st.length) (nI (rb_pl N st)) (nI (rb_tk N st)) any on w a (j + 1) (nI d) := by
  obtain ⟨v1, v2, v3⟩ := rb_VS_f hN st hv
  intro j
  induction j with
  | zero =>
    intro d h2 h3 h4 hs
    refine br_t ((nI_leI (by omega) (by omega)).mpr (by omega)) (yb_go39 hN hl hv hf hk (fun z => ?_) h1 h0)
    rw [(hs z).2, show d = N by have := (hs z).1; omega]
  | succ j ih =>
    intro d h2 h3 h4 hs
    by_cases hd : N ≤ d
    · refine br_t ((nI_leI (by omega) (by omega)).mpr hd) (yb_go39 hN hl hv hf hk (fun z => ?_) h1 h0)
      rw [(hs z).2, show d = N by have := (hs z).1; omega]
    · have es := (hs (by omega)).2
      refine br_f (by rw [nI_leI (by omega) (by omega)]; omega) ?_
      rw [nI_leI (by omega) (by omega)]
      refine br_c (fun q => yb_go39 hN hl hv hf hk (fun _ => ?_) h1 h0) (fun q => ?_)
      · rw [es]
        have := rb_skips (N := N) (k := k) (B := B) (st := st) (f := d) (N - d) (by omega) (fun i hi => by rw [rb_ok_lt hl (by omega), decide_eq_false (by omega), Bool.false_and])
        rw [this, show d + (N - d) = N by omega]
      · refine yb_fits hN hB hl (by omega) hv (fun t b => ?_) (fun t => ?_)
        · refine br_f (by decide) (yb_put hN hl (by omega) hv (fun _ => t) (h1 d h2 (by omega) ⟨by omega, fun _ => t, hv⟩ ?_))
          rw [es]
          exact rb_rm_take (by omega) (by rw [rb_ok_lt hl (by omega), decide_eq_true (by omega), t, b]; rfl)
        · refine br_t rfl (nm_r (nI_1 d) (ih (d + 1) (by omega) (by omega) (by omega) (fun _ => ⟨by omega, ?_⟩)))
          rw [es]
          refine rb_rm_skip (by omega) ?_
          rw [rb_ok_lt hl (by omega)]
          cases e : (rb_tk N st).testBit d
          · rw [t e]; simp
          · simp
theorem yb_goOn {post : Int32 → SY → Prop} {N k f : Nat} {any : Int32} {on w a : Nat → Int32} {B : Nat → Bool} {st : List Nat} (hN : N ≤ 6) (hB : rb_HB2 any on B) (hl : st.length < N) (hv : rb_VS N st) (hf : f ≤ N + 1) (hk : k ≤ N)
    (h1 : ∀ c, f ≤ c → c ≤ N → rb_VS N (c :: st) → rb_rm N k B st f ++ rb_up N k B st = rb_all N k B (c :: st) ++ rb_up N k B (c :: st) → post 1 (nI N, nI (st.length + 1), nI (rb_pl N (c :: st)), nI (rb_tk N (c :: st)), any, on, w, upd a st.length (nI c)))
    (h0 : rb_rm N k B st f = [] → post 0 (nI N, nI st.length, nI (rb_pl N st), nI (rb_tk N st), any, on, w, a)) :
    wpY_goOn post (nI N, nI st.length, nI (rb_pl N st), nI (rb_tk N st), any, on, w, a) (nI f) (nI k) :=
  ⟨_, yb_go2 hN hB hl hv hf hk h1 h0 N f (Nat.le_refl f) hf (by omega) (fun z => ⟨z, rfl⟩)⟩
/-- what is at the cursor -/
def rb_hd (N k : Nat) (B : Nat → Bool) (st : List Nat) (f : Nat) : List (List Nat) := if st.length = N then [st.reverse] else rb_rm N k B st f
/-- the cursor stands at the head of M, or the list is at its end -/
def yb_At (N k : Nat) (B : Nat → Bool) (any : Int32) (on w : Nat → Int32) : List (List Nat) → Int32 → SY → Prop
  | [], r, u => r = 0 ∧ ∃ x y z a, u = (nI N, x, y, z, any, on, w, a)
  | p :: L, r, u => r = 1 ∧ ∃ st a, u = (nI N, nI st.length, nI (rb_pl N st), nI (rb_tk N st), any, on, w, a) ∧ st.length = N ∧ st.reverse = p ∧ rb_up N k B st = L ∧ rb_VS N st ∧ rb_AR a st
theorem yb_loop {post : Int32 → SY → Prop} {N k : Nat} {any : Int32} {on w : Nat → Int32} {B : Nat → Bool} {L : List (List Nat)} (hN : N ≤ 6) (hB : rb_HB2 any on B) (hk : k ≤ N)
    (hp : ∀ r u, yb_At N k B any on w L r u → post r u) :
    ∀ (n : Nat) (st : List Nat) (f : Nat) (a : Nat → Int32), rb_mu N st f < n → rb_VS N st → rb_AR a st → st.length ≤ N → f ≤ N + 1 → rb_hd N k B st f ++ rb_up N k B st = L →
      wY_next_13 post (nI k) n (nI f) (nI N) (nI st.length) (nI (rb_pl N st)) (nI (rb_tk N st)) any on w a := by
  intro n
  induction n with
  | zero => intro st f a h; omega
  | succ n ih =>
    intro st f a hm hv ha hl hf hL
    by_cases hlN : st.length = N
    · refine br_t ((nI_leI (by omega) (by omega)).mpr (by omega)) (hp _ _ ?_)
      rw [← hL, show rb_hd N k B st f = [st.reverse] from if_pos hlN]
      exact ⟨rfl, st, a, rfl, hlN, rfl, rfl, hv, ha⟩
    · have hl' : st.length < N := by omega
      have ehd : rb_hd N k B st f = rb_rm N k B st f := if_neg hlN
      rw [ehd] at hL
      refine br_f (by rw [nI_leI (by omega) (by omega)]; omega) (yb_goOn hN hB hl' hv hf hk (fun c hc1 hc2 hv' hr => ?_) (fun hr => ?_))
      · refine br_f (by decide) (ih (c :: st) 0 _ (by have := rb_mu_put (N := N) (f := f) hl' hc2 hc1; omega) hv' (rb_AR_put ha) (by rw [List.length_cons]; omega) (by omega) ?_)
        rw [← hL, hr]
        congr 1
        by_cases e : (c :: st).length = N
        · rw [show rb_hd N k B (c :: st) 0 = [(c :: st).reverse] from if_pos e, rb_all_N e]
        · rw [show rb_hd N k B (c :: st) 0 = rb_rm N k B (c :: st) 0 from if_neg e, rb_rm_0 (by rw [List.length_cons] at e ⊢; omega)]
      · cases st with
        | nil =>
          refine br_t rfl (br_t rfl (hp _ _ ?_))
          rw [← hL, hr]
          exact ⟨rfl, _, _, _, _, rfl⟩
        | cons c st =>
          rw [List.length_cons] at hl'
          refine br_t rfl (br_f (nI_ne0 (Nat.succ_pos _) (by omega)) (yb_back hN (by omega) hv ha (nm_r (nI_1 c) (ih st (c + 1) a (by have := rb_mu_back (N := N) (st := st) (c := c) (f := f) (by omega); omega) hv.2.2 ha.2 (by omega) (by have := hv.1; omega) ?_))))
          rw [← hL, hr, show rb_hd N k B st (c + 1) = rb_rm N k B st (c + 1) from if_neg (by omega)]
          rfl
theorem rb_all_nil {N k : Nat} {B : Nat → Bool} : rb_all N k B [] = rb_PL N k B := by
  show (rb_comp N k B (N - 0) 0 0).map (fun s => [] ++ s) = rb_comp N k B N 0 0
  rw [Nat.sub_zero]
  exact List.map_id'' (fun _ => rfl) _
/-- next, at first -/
theorem yb_first {post : Int32 → SY → Prop} {N k : Nat} {any : Int32} {on w a : Nat → Int32} {B : Nat → Bool} (hN : N ≤ 6) (h0 : 0 < N) (hB : rb_HB2 any on B) (hk : k ≤ N)
    (hp : ∀ r u, yb_At N k B any on w (rb_PL N k B) r u → post r u) : wpY_next post (nI N, 0, 0, 0, any, on, w, a) (nI k) 1 := by
  refine br_f (by decide) ⟨_, yb_loop hN hB hk hp _ [] 0 a (Nat.lt_succ_self _) True.intro True.intro (by show 0 ≤ N; omega) (by omega) ?_⟩
  rw [show rb_hd N k B [] 0 = rb_rm N k B [] 0 from if_neg (by show ¬ 0 = N; omega), rb_rm_0 (by show 0 < N; omega), rb_all_nil]
  exact List.append_nil _
/-- next, from a placement -/
theorem yb_again {post : Int32 → SY → Prop} {N k : Nat} {any : Int32} {on w : Nat → Int32} {B : Nat → Bool} {p : List Nat} {L : List (List Nat)} {u : SY} {r : Int32} (hN : N ≤ 6) (h0 : 0 < N) (hB : rb_HB2 any on B) (hk : k ≤ N)
    (hu : yb_At N k B any on w (p :: L) r u) (hp : ∀ r u, yb_At N k B any on w L r u → post r u) : wpY_next post u (nI k) 0 := by
  obtain ⟨_, st, a, rfl, h1, h2, h3, h4, h5⟩ := hu
  cases st with
  | nil => exact absurd h1 (by show ¬ 0 = N; omega)
  | cons c st =>
    rw [List.length_cons] at h1
    refine br_t rfl (yb_back hN (by omega) h4 h5 (nm_r (nI_1 c) ⟨_, yb_loop hN hB hk hp _ st (c + 1) a (Nat.lt_succ_self _) h4.2.2 h5.2 (by omega) (by have := h4.1; omega) ?_⟩))
    rw [show rb_hd N k B st (c + 1) = rb_rm N k B st (c + 1) from if_neg (by omega), ← h3]
    rfl
end
section
/-! M: the reference's queries -/
theorem yb_bad0 {post : Int32 → Prop} {N k : Nat} {x y z any : Int32} {on w a : Nat → Int32} (hN : N ≤ 6) (hk : k ≤ N) (h : post 0) : wpY_bad post (nI N, x, y, z, any, on, w, a) (nI k) :=
  br_f (nI_pos (by omega)) (br_t ((nI_leI (by omega) (by omega)).mpr hk) h)
theorem yb_bad1 {post : Int32 → Prop} {N : Nat} {v x y z any : Int32} {on w a : Nat → Int32} (hN : N ≤ 6) (hk : ¬ ∃ k, k ≤ N ∧ v = nI k) (h : post 1) : wpY_bad post (nI N, x, y, z, any, on, w, a) v := by
  refine br_c (fun _ => h) (fun h0 => br_f (fun h1 => hk ?_) h)
  obtain ⟨j, hj, rfl⟩ := nI_of h0
  exact ⟨j, (nI_leI hj (by omega)).mp h1, rfl⟩
theorem yb_begin {post : SY → Prop} {N : Nat} {x y z any f : Int32} {on w a : Nat → Int32} (hf : f = 0 ∨ f = 1) (h : post (nI N, 0, 0, 0, f, on, w, a)) : wpY_begin post (nI N, x, y, z, any, on, w, a) f := by
  rcases hf with rfl | rfl
  · exact ⟨by decide, by decide, h⟩
  · exact ⟨by decide, by decide, h⟩
theorem yb_At_t {N k : Nat} {B : Nat → Bool} {any : Int32} {on w : Nat → Int32} {M : List (List Nat)} {r : Int32} {u : SY} (h : yb_At N k B any on w M r u) : ∃ x y z a, u = (nI N, x, y, z, any, on, w, a) := by
  cases M with
  | nil => exact h.2
  | cons p L =>
    obtain ⟨_, st, a, rfl, _⟩ := h
    exact ⟨_, _, _, _, rfl⟩
theorem yb_At_0 {N k : Nat} {B : Nat → Bool} {any : Int32} {on w : Nat → Int32} {r : Int32} {u : SY} (h : yb_At N k B any on w [] r u) : r = 0 := h.1
theorem yb_At_1 {N k : Nat} {B : Nat → Bool} {any : Int32} {on w : Nat → Int32} {p : List Nat} {L : List (List Nat)} {r : Int32} {u : SY} (h : yb_At N k B any on w (p :: L) r u) : r = 1 := h.1
theorem yb_At_n {N k : Nat} {B : Nat → Bool} {any : Int32} {on w : Nat → Int32} {p : List Nat} {L : List (List Nat)} {r : Int32} {u : SY} (h : yb_At N k B any on w (p :: L) r u) : ¬ r = 0 := by
  rw [yb_At_1 h]; decide
theorem yb_At_c {N k : Nat} {B : Nat → Bool} {any : Int32} {on w a : Nat → Int32} {p : List Nat} {L : List (List Nat)} {r x y z : Int32} (h : yb_At N k B any on w (p :: L) r (nI N, x, y, z, any, on, w, a)) : p.length = N ∧ ∀ i, i < N → a i = nI (p.getD i 0) := by
  obtain ⟨_, st, a', e, h1, h2, h3, h4, h5⟩ := h
  simp only [Prod.mk.injEq, true_and] at e
  obtain ⟨_, _, _, rfl⟩ := e
  refine ⟨by rw [← h2, List.length_reverse, h1], fun i hi => ?_⟩
  rw [← h2]
  exact rb_AR_get st h5 i (by omega)
def rb_B (on : Nat → Int32) : Nat → Bool := fun x => decide (¬ on x = 0)
theorem rb_HB20 (on : Nat → Int32) : rb_HB2 0 on (rb_B on) := fun x _ => by
  unfold rb_B
  rw [decide_eq_true_eq]
  exact ⟨fun h _ => h, fun h => h rfl⟩
theorem rb_HB21 (on : Nat → Int32) : rb_HB2 1 on (fun _ => true) := fun x _ => ⟨fun _ h => absurd h (by decide), fun _ => rfl⟩
theorem yb_rooksL {post : Int32 → SY → Prop} {N k : Nat} {any : Int32} {on w : Nat → Int32} {B : Nat → Bool} (hN : N ≤ 6) (h0 : 0 < N) (hB : rb_HB2 any on B) (hk : k ≤ N) :
    ∀ (M : List (List Nat)) (n : Nat) (acc r x y z : Int32) (a : Nat → Int32), M.length < n → yb_At N k B any on w M r (nI N, x, y, z, any, on, w, a) →
      (∀ x y z a, post (acc + rb_ls (fun _ => 1) M) (nI N, x, y, z, any, on, w, a)) → wY_rooks_24 post (nI k) n acc r (nI N) x y z any on w a := by
  intro M
  induction M with
  | nil =>
    intro n acc r x y z a hn hu hp
    obtain ⟨n, rfl⟩ : ∃ m, n = m + 1 := ⟨n - 1, by omega⟩
    have := hp x y z a
    rw [show rb_ls (fun _ => 1) [] = 0 from rfl, Int32.add_zero] at this
    exact br_t (yb_At_0 hu) this
  | cons p L ih =>
    intro n acc r x y z a hn hu hp
    obtain ⟨n, rfl⟩ : ∃ m, n = m + 1 := ⟨n - 1, by omega⟩
    refine br_f (yb_At_n hu) (nm_e (yb_again hN h0 hB hk hu (fun r u hu' => ?_)))
    obtain ⟨x, y, z, a, rfl⟩ := yb_At_t hu'
    refine ih n (acc + 1) r x y z a (by rw [List.length_cons] at hn; omega) hu' (fun x y z a => ?_)
    have := hp x y z a
    rw [show rb_ls (fun _ => 1) (p :: L) = 1 + rb_ls (fun _ => 1) L from rfl, ← Int32.add_assoc] at this
    exact this
theorem yb_rooks {post : Int32 → SY → Prop} {N k : Nat} {x y z any : Int32} {on w a : Nat → Int32} (hN : N ≤ 6) (h0 : 0 < N) (hk : k ≤ N)
    (hp : ∀ x y z any a, post (nI (rb_PL N k (rb_B on)).length) (nI N, x, y, z, any, on, w, a)) : wpY_rooks post (nI N, x, y, z, any, on, w, a) (nI k) := by
  unfold wpY_rooks
  dsimp only
  refine yb_bad0 hN hk (br_t rfl (yb_begin (Or.inl rfl) (yb_first hN h0 (rb_HB20 on) hk (fun r u hu => ?_))))
  obtain ⟨x, y, z, a, rfl⟩ := yb_At_t hu
  refine ⟨_, yb_rooksL hN h0 (rb_HB20 on) hk _ _ 0 r x y z a (Nat.lt_succ_self _) hu (fun x y z a => ?_)⟩
  rw [rb_ls_len, Int32.zero_add]
  exact hp x y z 0 a
theorem yb_rooks1 {post : Int32 → SY → Prop} {N : Nat} {v x y z any : Int32} {on w a : Nat → Int32} (hN : N ≤ 6) (hk : ¬ ∃ k, k ≤ N ∧ v = nI k)
    (hp : post (-1) (nI N, x, y, z, any, on, w, a)) : wpY_rooks post (nI N, x, y, z, any, on, w, a) v := by
  unfold wpY_rooks
  dsimp only
  exact yb_bad1 hN hk (br_f (by decide) hp)
/-! through -/
theorem rb_div6 {r c : Nat} (hr : r < 6) (hc : c < 6) : nI (6 * r + c) / 6 = nI r := by
  show nI (6 * r + c) / nI 6 = _
  rw [pk_div (by omega) (by decide) (by decide)]
  exact congrArg nI (by omega)
theorem rb_rem6 {r c : Nat} (hr : r < 6) (hc : c < 6) : nI (6 * r + c) - nI (6 * r + c) / 6 * 6 = nI c := by
  show nI (6 * r + c) - nI (6 * r + c) / nI 6 * nI 6 = _
  rw [pk_rem (by omega) (by decide) (by decide)]
  exact congrArg nI (by omega)
theorem rb_60 : ¬ (6 : Int32) = 0 := by decide
theorem rb_20 : ¬ (2 : Int32) = 0 := by decide
theorem rb_getD_le {N i : Nat} {p : List Nat} (h : ∀ c, c ∈ p → c ≤ N) : p.getD i 0 ≤ N := by
  rw [List.getD_eq_getElem?_getD]
  cases e : p[i]? with
  | none => exact Nat.zero_le _
  | some c => exact h c (List.mem_of_getElem? e)
theorem yb_throughL {post : Int32 → SY → Prop} {N k r0 c0 : Nat} {any : Int32} {on w : Nat → Int32} {B : Nat → Bool} (hN : N ≤ 6) (h0 : 0 < N) (hB : rb_HB2 any on B) (hk : k ≤ N) (hr : r0 < N) (hc : c0 < N) :
    ∀ (M : List (List Nat)) (n : Nat) (acc r x y z : Int32) (a : Nat → Int32), M.length < n → (∀ p, p ∈ M → ∀ c, c ∈ p → c ≤ N) → yb_At N k B any on w M r (nI N, x, y, z, any, on, w, a) →
      (∀ x y z a, post (acc + rb_ls (fun p => if p.getD r0 0 = c0 then 1 else 0) M) (nI N, x, y, z, any, on, w, a)) → wY_through_33 post (nI (6 * r0 + c0)) (nI k) n acc r (nI N) x y z any on w a := by
  intro M
  induction M with
  | nil =>
    intro n acc r x y z a hn hM hu hp
    obtain ⟨n, rfl⟩ : ∃ m, n = m + 1 := ⟨n - 1, by omega⟩
    have := hp x y z a
    rw [show rb_ls (fun p => if p.getD r0 0 = c0 then 1 else 0) [] = 0 from rfl, Int32.add_zero] at this
    exact br_t (yb_At_0 hu) this
  | cons p L ih =>
    intro n acc r x y z a hn hM hu hp
    obtain ⟨n, rfl⟩ : ∃ m, n = m + 1 := ⟨n - 1, by omega⟩
    obtain ⟨hl, hcol⟩ := yb_At_c hu
    have hle : p.getD r0 0 ≤ N := rb_getD_le (hM p (List.mem_cons_self ..))
    refine br_f (yb_At_n hu) ⟨rb_60, ?_⟩
    rw [rb_div6 (by omega) (by omega)]
    refine ⟨vp_in_nI (by omega) (by decide), rb_60, ?_⟩
    have e2 := rb_rem6 (r := r0) (c := c0) (by omega) (by omega)
    rw [rb_div6 (by omega) (by omega)] at e2
    rw [e2, nI_clamp (by omega), hcol r0 hr, nI_eq (by omega) (by omega)]
    have go : ∀ acc' : Int32, acc' = acc + (if p.getD r0 0 = c0 then 1 else 0) → wY_through_57 post (wY_through_33 post (nI (6 * r0 + c0)) (nI k) n) (nI (6 * r0 + c0)) (nI k) acc' (nI N) x y z any on w a := by
      intro acc' ea
      unfold wY_through_57
      refine yb_again hN h0 hB hk hu (fun r u hu' => ?_)
      obtain ⟨x, y, z, a, rfl⟩ := yb_At_t hu'
      refine ih n acc' r x y z a (by rw [List.length_cons] at hn; omega) (fun q hq => hM q (List.mem_cons_of_mem _ hq)) hu' (fun x y z a => ?_)
      have := hp x y z a
      rw [show rb_ls (fun p => if p.getD r0 0 = c0 then 1 else 0) (p :: L) = (if p.getD r0 0 = c0 then 1 else 0) + rb_ls (fun p => if p.getD r0 0 = c0 then 1 else 0) L from rfl, ← Int32.add_assoc, ← ea] at this
      exact this
    exact br_c (fun e => nm_e (go _ (by rw [if_pos e]))) (fun e => go _ (by rw [if_neg e, Int32.add_zero]))
/-- cells -/
theorem yb_noCell0 {post : Int32 → Prop} {N r c : Nat} {x y z any : Int32} {on w a : Nat → Int32} (hN : N ≤ 6) (hr : r < N) (hc : c < N) (h : post 0) : wpY_noCell post (nI N, x, y, z, any, on, w, a) (nI (6 * r + c)) := by
  unfold wpY_noCell
  dsimp only
  have e2 := rb_rem6 (r := r) (c := c) (by omega) (by omega)
  rw [rb_div6 (by omega) (by omega)] at e2 ⊢
  rw [e2]
  exact br_f (nI_pos (by omega)) (br_f (nI_nlt (b := 6 * r + c) (a := 35) (by omega) (by decide)) ⟨rb_60, br_f (by rw [nI_leI (by omega) (by omega)]; omega) ⟨rb_60, br_t (nI_lt hc (by omega)) h⟩⟩)
theorem yb_noCell1 {post : Int32 → Prop} {N : Nat} {v x y z any : Int32} {on w a : Nat → Int32} (hN : N ≤ 6) (hv : ¬ ∃ r c, r < N ∧ c < N ∧ v = nI (6 * r + c)) (h : post 1) : wpY_noCell post (nI N, x, y, z, any, on, w, a) v := by
  unfold wpY_noCell
  dsimp only
  refine br_c (fun _ => h) (fun g0 => br_c (fun _ => h) (fun g1 => ⟨rb_60, ?_⟩))
  obtain ⟨j, hj, rfl⟩ := nI_of g0
  have hj36 : j < 36 := by
    rcases Nat.lt_or_ge j 36 with q | q
    · exact q
    · exact absurd (nI_lt (a := 35) (b := j) (by omega) hj) g1
  obtain ⟨r, c, hr, hc, rfl⟩ : ∃ r c, r < 6 ∧ c < 6 ∧ j = 6 * r + c := ⟨j / 6, j % 6, by omega, by omega, by omega⟩
  have e2 := rb_rem6 (r := r) (c := c) (by omega) (by omega)
  rw [rb_div6 (by omega) (by omega)] at e2 ⊢
  rw [e2, nI_leI (by omega) (by omega), nI_ltI (by omega) (by omega)]
  exact br_c (fun _ => h) (fun q1 => ⟨rb_60, br_f (fun q2 => hv ⟨r, c, by omega, q2, rfl⟩) h⟩)
def rb_thr (N : Nat) (B : Nat → Bool) (k x : Nat) : Int32 := rb_CB N B (rb_wf (x / 6) (x % 6)) k N 0
theorem yb_through {post : Int32 → SY → Prop} {N k r0 c0 : Nat} {x y z any : Int32} {on w a : Nat → Int32} (hN : N ≤ 6) (h0 : 0 < N) (hk : k ≤ N) (hr : r0 < N) (hc : c0 < N)
    (hp : ∀ x y z any a, post (rb_thr N (rb_B on) k (6 * r0 + c0)) (nI N, x, y, z, any, on, w, a)) : wpY_through post (nI N, x, y, z, any, on, w, a) (nI (6 * r0 + c0)) (nI k) := by
  unfold wpY_through
  dsimp only
  refine yb_noCell0 hN hr hc (br_t rfl (yb_bad0 hN hk (br_t rfl (yb_begin (Or.inl rfl) (yb_first hN h0 (rb_HB20 on) hk (fun r u hu => ?_))))))
  obtain ⟨x, y, z, a, rfl⟩ := yb_At_t hu
  refine ⟨_, yb_throughL hN h0 (rb_HB20 on) hk hr hc _ _ 0 r x y z a (Nat.lt_succ_self _) (fun p hq => (rb_PLm hq).2) hu (fun x y z a => ?_)⟩
  rw [rb_PLthr hN hk hr, Int32.zero_add]
  have := hp x y z 0 a
  unfold rb_thr at this
  rw [show (6 * r0 + c0) / 6 = r0 by omega, show (6 * r0 + c0) % 6 = c0 by omega] at this
  exact this
theorem yb_through1 {post : Int32 → SY → Prop} {N : Nat} {v v2 x y z any : Int32} {on w a : Nat → Int32} (hN : N ≤ 6) (hk : ¬ ((∃ r c, r < N ∧ c < N ∧ v = nI (6 * r + c)) ∧ ∃ k, k ≤ N ∧ v2 = nI k))
    (hp : post (-1) (nI N, x, y, z, any, on, w, a)) : wpY_through post (nI N, x, y, z, any, on, w, a) v v2 := by
  unfold wpY_through
  dsimp only
  by_cases h : ∃ r c, r < N ∧ c < N ∧ v = nI (6 * r + c)
  · obtain ⟨r, c, hr, hc, rfl⟩ := h
    exact yb_noCell0 hN hr hc (br_t rfl (yb_bad1 hN (fun q => hk ⟨⟨r, c, hr, hc, rfl⟩, q⟩) (br_f (by decide) hp)))
  · exact yb_noCell1 hN h (br_f (by decide) hp)
end
section
/-! N: the reference's sums, hits, signs -/
theorem yb_worth {post : Int32 → Prop} {N : Nat} {x y z any : Int32} {on w a : Nat → Int32} {p : List Nat} (hN : N ≤ 6) (hl : p.length = N) (hle : ∀ c, c ∈ p → c ≤ N) (hcol : ∀ i, i < N → a i = nI (p.getD i 0))
    (h : post (rb_wo N w 0 p)) : wpY_worth post (nI N, x, y, z, any, on, w, a) := by
  have L : ∀ (j i : Nat) (acc : Int32), i + j = N → acc * rb_wo N w i (p.drop i) = rb_wo N w 0 p → wY_worth_4 post (nI N) x y z any on w a (j + 1) acc (nI i) := by
    intro j
    induction j with
    | zero =>
      intro i acc hi ha
      rw [List.drop_of_length_le (by omega)] at ha
      have : acc = rb_wo N w 0 p := by rw [← ha]; exact (Int32.mul_one acc).symm
      rw [this]
      exact br_t ((nI_leI (by omega) (by omega)).mpr (by omega)) h
    | succ j ih =>
      intro i acc hi ha
      have hc : p.getD i 0 ≤ N := rb_getD_le hle
      rw [rb_drop (by omega), show rb_wo N w i (p.getD i 0 :: p.drop (i + 1)) = (if p.getD i 0 < N then w (6 * i + p.getD i 0) else 1) * rb_wo N w (i + 1) (p.drop (i + 1)) from rfl, ← Int32.mul_assoc] at ha
      refine br_f (by rw [nI_leI (by omega) (by omega)]; omega) ⟨vp_in_nI (by omega) (by decide), ?_⟩
      rw [nI_clamp (by omega), hcol i (by omega), nI_leI (by omega) (by omega)]
      refine br_c (fun q => nm_r (nI_1 i) (ih (i + 1) acc (by omega) ?_)) (fun q => ⟨vp_in_nI (by omega) (by decide), ?_⟩)
      · rw [if_neg (by omega), Int32.mul_one] at ha
        exact ha
      · rw [rb_ix, nI_clamp (by omega)]
        rw [if_pos (by omega)] at ha
        exact ⟨vp_in_nI (by omega) (by decide), nm_e (nm_r (nI_1 i) (ih (i + 1) _ (by omega) ha))⟩
  exact ⟨_, L N 0 1 (by omega) (by rw [Int32.one_mul]; rfl)⟩
theorem yb_sumL {post : Int32 → SY → Prop} {N k : Nat} {any : Int32} {on w : Nat → Int32} {B : Nat → Bool} (hN : N ≤ 6) (h0 : 0 < N) (hB : rb_HB2 any on B) (hk : k ≤ N) :
    ∀ (M : List (List Nat)) (n : Nat) (acc r x y z : Int32) (a : Nat → Int32), M.length < n → (∀ p, p ∈ M → ∀ c, c ∈ p → c ≤ N) → yb_At N k B any on w M r (nI N, x, y, z, any, on, w, a) →
      (∀ x y z a, post (acc + rb_ls (rb_wo N w 0) M) (nI N, x, y, z, any, on, w, a)) → wY_sum_24 post (nI k) n acc r (nI N) x y z any on w a := by
  intro M
  induction M with
  | nil =>
    intro n acc r x y z a hn hM hu hp
    obtain ⟨n, rfl⟩ : ∃ m, n = m + 1 := ⟨n - 1, by omega⟩
    have := hp x y z a
    rw [show rb_ls (rb_wo N w 0) [] = 0 from rfl, Int32.add_zero] at this
    exact br_t (yb_At_0 hu) this
  | cons p L ih =>
    intro n acc r x y z a hn hM hu hp
    obtain ⟨n, rfl⟩ : ∃ m, n = m + 1 := ⟨n - 1, by omega⟩
    obtain ⟨hl, hcol⟩ := yb_At_c hu
    refine br_f (yb_At_n hu) (yb_worth hN hl (hM p (List.mem_cons_self ..)) hcol (nm_e (yb_again hN h0 hB hk hu (fun r u hu' => ?_))))
    obtain ⟨x, y, z, a, rfl⟩ := yb_At_t hu'
    refine ih n _ r x y z a (by rw [List.length_cons] at hn; omega) (fun q hq => hM q (List.mem_cons_of_mem _ hq)) hu' (fun x y z a => ?_)
    have := hp x y z a
    rw [show rb_ls (rb_wo N w 0) (p :: L) = rb_wo N w 0 p + rb_ls (rb_wo N w 0) L from rfl, ← Int32.add_assoc] at this
    exact this
theorem yb_sum {post : Int32 → SY → Prop} {N k : Nat} {x y z any : Int32} {on w a : Nat → Int32} (hN : N ≤ 6) (h0 : 0 < N) (hk : k ≤ N)
    (hp : ∀ x y z any a, post (rb_CB N (rb_B on) (rb_wd N w) k N 0) (nI N, x, y, z, any, on, w, a)) : wpY_sum post (nI N, x, y, z, any, on, w, a) (nI k) := by
  unfold wpY_sum
  dsimp only
  refine yb_bad0 hN hk (br_t rfl (yb_begin (Or.inl rfl) (yb_first hN h0 (rb_HB20 on) hk (fun r u hu => ?_))))
  obtain ⟨x, y, z, a, rfl⟩ := yb_At_t hu
  refine ⟨_, yb_sumL hN h0 (rb_HB20 on) hk _ _ 0 r x y z a (Nat.lt_succ_self _) (fun p hq => (rb_PLm hq).2) hu (fun x y z a => ?_)⟩
  rw [rb_PLsum hN hk, Int32.zero_add]
  exact hp x y z 0 a
theorem yb_sum1 {post : Int32 → SY → Prop} {N : Nat} {v x y z any : Int32} {on w a : Nat → Int32} (hN : N ≤ 6) (hk : ¬ ∃ k, k ≤ N ∧ v = nI k)
    (hp : post (-1) (nI N, x, y, z, any, on, w, a)) : wpY_sum post (nI N, x, y, z, any, on, w, a) v := by
  unfold wpY_sum
  dsimp only
  exact yb_bad1 hN hk (br_f (by decide) hp)
/-! signs -/
theorem yb_sign {post : Int32 → Prop} {N : Nat} {x y z any : Int32} {on w a : Nat → Int32} {p : List Nat} (hN : N ≤ 6) (hl : p.length = N) (hle : ∀ c, c ∈ p → c ≤ N) (hcol : ∀ i, i < N → a i = nI (p.getD i 0))
    (h : post (rb_sg (rb_iv p))) : wpY_sign post (nI N, x, y, z, any, on, w, a) := by
  have In : ∀ (J : Int32 → Int32 → Prop) (i : Nat), i < N → ∀ (j s : Nat) (acc t : Int32), s + j = N → acc * rb_sg (rb_ct (p.getD i 0) (p.drop s)) = t → J t (nI (i + 1)) → wY_sign_16 post J (nI i) (nI N) x y z any on w a (j + 1) acc (nI s) := by
    intro J i hi j
    induction j with
    | zero =>
      intro s acc t hs ht hJ
      rw [List.drop_of_length_le (by omega)] at ht
      have : acc = t := by rw [← ht]; exact (Int32.mul_one acc).symm
      rw [this]
      exact br_t ((nI_leI (by omega) (by omega)).mpr (by omega)) (nm_r (nI_1 i) hJ)
    | succ j ih =>
      intro s acc t hs ht hJ
      have hc : p.getD i 0 ≤ N := rb_getD_le hle
      have hd : p.getD s 0 ≤ N := rb_getD_le hle
      rw [rb_drop (by omega), show rb_ct (p.getD i 0) (p.getD s 0 :: p.drop (s + 1)) = (if p.getD s 0 < p.getD i 0 then 1 else 0) + rb_ct (p.getD i 0) (p.drop (s + 1)) from rfl] at ht
      refine br_f (by rw [nI_leI (by omega) (by omega)]; omega) ⟨vp_in_nI (by omega) (by decide), vp_in_nI (by omega) (by decide), ?_⟩
      rw [nI_clamp (by omega), nI_clamp (by omega), hcol i hi, hcol s (by omega), nI_leI (by omega) (by omega)]
      refine br_c (fun q => nm_r (nI_1 s) (ih (s + 1) acc t (by omega) ?_ hJ)) (fun q => nm_e (nm_r (nI_1 s) (ih (s + 1) _ t (by omega) ?_ hJ)))
      · rw [if_neg (by omega), Nat.zero_add] at ht
        exact ht
      · rw [if_pos (by omega), Nat.add_comm, rb_sg_s] at ht
        rw [← ht]
        grind
  have Out : ∀ (j i : Nat) (acc : Int32), i + j = N → acc * rb_sg (rb_iv (p.drop i)) = rb_sg (rb_iv p) → wY_sign_4 post (nI N) x y z any on w a (j + 1) acc (nI i) := by
    intro j
    induction j with
    | zero =>
      intro i acc hi ha
      rw [List.drop_of_length_le (by omega)] at ha
      have : acc = rb_sg (rb_iv p) := by rw [← ha]; exact (Int32.mul_one acc).symm
      rw [this]
      exact br_t ((nI_leI (by omega) (by omega)).mpr (by omega)) h
    | succ j ih =>
      intro i acc hi ha
      rw [rb_drop (by omega), show rb_iv (p.getD i 0 :: p.drop (i + 1)) = rb_ct (p.getD i 0) (p.drop (i + 1)) + rb_iv (p.drop (i + 1)) from rfl, rb_sg_a, ← Int32.mul_assoc] at ha
      exact br_f (by rw [nI_leI (by omega) (by omega)]; omega) (nm_r (nI_1 i) ⟨_, In _ i (by omega) j (i + 1) acc _ (by omega) rfl (ih (i + 1) _ (by omega) ha)⟩)
  exact ⟨_, Out N 0 1 (by omega) (by rw [Int32.one_mul]; rfl)⟩
theorem yb_signedL {post : Int32 → SY → Prop} {N : Nat} {any : Int32} {on w : Nat → Int32} {B : Nat → Bool} (hN : N ≤ 6) (h0 : 0 < N) (hB : rb_HB2 any on B) :
    ∀ (M : List (List Nat)) (n : Nat) (acc r x y z : Int32) (a : Nat → Int32), M.length < n → (∀ p, p ∈ M → ∀ c, c ∈ p → c ≤ N) → yb_At N N B any on w M r (nI N, x, y, z, any, on, w, a) →
      (∀ x y z a, post (acc + rb_ls (fun p => rb_sg (rb_iv p) * rb_wo N w 0 p) M) (nI N, x, y, z, any, on, w, a)) → wY_signedSum_17 post n acc r (nI N) x y z any on w a := by
  intro M
  induction M with
  | nil =>
    intro n acc r x y z a hn hM hu hp
    obtain ⟨n, rfl⟩ : ∃ m, n = m + 1 := ⟨n - 1, by omega⟩
    have := hp x y z a
    rw [show rb_ls (fun p => rb_sg (rb_iv p) * rb_wo N w 0 p) [] = 0 from rfl, Int32.add_zero] at this
    exact br_t (yb_At_0 hu) this
  | cons p L ih =>
    intro n acc r x y z a hn hM hu hp
    obtain ⟨n, rfl⟩ : ∃ m, n = m + 1 := ⟨n - 1, by omega⟩
    obtain ⟨hl, hcol⟩ := yb_At_c hu
    refine br_f (yb_At_n hu) (yb_worth hN hl (hM p (List.mem_cons_self ..)) hcol (yb_sign hN hl (hM p (List.mem_cons_self ..)) hcol (nm_e (yb_again hN h0 hB (Nat.le_refl N) hu (fun r u hu' => ?_)))))
    obtain ⟨x, y, z, a, rfl⟩ := yb_At_t hu'
    refine ih n _ r x y z a (by rw [List.length_cons] at hn; omega) (fun q hq => hM q (List.mem_cons_of_mem _ hq)) hu' (fun x y z a => ?_)
    have := hp x y z a
    rw [show rb_ls (fun p => rb_sg (rb_iv p) * rb_wo N w 0 p) (p :: L) = rb_sg (rb_iv p) * rb_wo N w 0 p + rb_ls (fun p => rb_sg (rb_iv p) * rb_wo N w 0 p) L from rfl, ← Int32.add_assoc] at this
    exact this
theorem yb_signedSum {post : Int32 → SY → Prop} {N : Nat} {x y z any : Int32} {on w a : Nat → Int32} (hN : N ≤ 6) (h0 : 0 < N)
    (hp : ∀ x y z any a, post (rb_CB N (rb_B on) (rb_wg N w) N N 0) (nI N, x, y, z, any, on, w, a)) : wpY_signedSum post (nI N, x, y, z, any, on, w, a) := by
  unfold wpY_signedSum
  dsimp only
  refine yb_begin (Or.inl rfl) (yb_first hN h0 (rb_HB20 on) (Nat.le_refl N) (fun r u hu => ?_))
  obtain ⟨x, y, z, a, rfl⟩ := yb_At_t hu
  refine ⟨_, yb_signedL hN h0 (rb_HB20 on) _ _ 0 r x y z a (Nat.lt_succ_self _) (fun p hq => (rb_PLm hq).2) hu (fun x y z a => ?_)⟩
  rw [rb_PLsg hN, Int32.zero_add]
  exact hp x y z 0 a
/-! hits -/
def rb_h (on : Nat → Int32) : Nat → Nat → Nat := fun r c => if on (6 * r + c) = 0 then 0 else 1
theorem rb_h1 (on : Nat → Int32) (r c : Nat) : rb_h on r c ≤ 1 := by unfold rb_h; split <;> omega
theorem rb_hi_le {h : Nat → Nat → Nat} (hh : ∀ a b, h a b ≤ 1) : ∀ (s : List Nat) (r : Nat), rb_hi h r s ≤ s.length := by
  intro s
  induction s with
  | nil => intro r; exact Nat.le_refl _
  | cons c s ih =>
    intro r
    show h r c + rb_hi h (r + 1) s ≤ s.length + 1
    have := ih (r + 1)
    have := hh r c
    omega
theorem yb_hitsL {post : Int32 → SY → Prop} {N kk : Nat} {any : Int32} {on w : Nat → Int32} {B : Nat → Bool} (hN : N ≤ 6) (h0 : 0 < N) (hB : rb_HB2 any on B) (hk : kk ≤ N) :
    ∀ (M : List (List Nat)) (n : Nat) (acc r x y z : Int32) (a : Nat → Int32), M.length < n → (∀ p, p ∈ M → ∀ c, c ∈ p → c < N) → yb_At N N B any on w M r (nI N, x, y, z, any, on, w, a) →
      (∀ x y z a, post (acc + rb_ls (fun p => if rb_hi (rb_h on) 0 p = kk then 1 else 0) M) (nI N, x, y, z, any, on, w, a)) → wY_hits_27 post (nI kk) n acc r (nI N) x y z any on w a := by
  intro M
  induction M with
  | nil =>
    intro n acc r x y z a hn hM hu hp
    obtain ⟨n, rfl⟩ : ∃ m, n = m + 1 := ⟨n - 1, by omega⟩
    have := hp x y z a
    rw [show rb_ls (fun p => if rb_hi (rb_h on) 0 p = kk then 1 else 0) [] = 0 from rfl, Int32.add_zero] at this
    exact br_t (yb_At_0 hu) this
  | cons p L ih =>
    intro n acc r x y z a hn hM hu hp
    obtain ⟨n, rfl⟩ : ∃ m, n = m + 1 := ⟨n - 1, by omega⟩
    obtain ⟨hl, hcol⟩ := yb_At_c hu
    have hlt := hM p (List.mem_cons_self ..)
    have hg : ∀ i, i < N → p.getD i 0 < N := by
      intro i hi
      have hi' : i < p.length := by omega
      rw [List.getD_eq_getElem?_getD, List.getElem?_eq_getElem hi']
      exact hlt _ (List.getElem_mem hi')
    have go : ∀ acc' : Int32, acc' = acc + (if rb_hi (rb_h on) 0 p = kk then 1 else 0) → wY_hits_85 post (wY_hits_27 post (nI kk) n) (nI kk) acc' (nI N) x y z any on w a := by
      intro acc' ea
      unfold wY_hits_85
      refine yb_again hN h0 hB (Nat.le_refl N) hu (fun r u hu' => ?_)
      obtain ⟨x, y, z, a, rfl⟩ := yb_At_t hu'
      refine ih n acc' r x y z a (by rw [List.length_cons] at hn; omega) (fun q hq => hM q (List.mem_cons_of_mem _ hq)) hu' (fun x y z a => ?_)
      have := hp x y z a
      rw [show rb_ls (fun p => if rb_hi (rb_h on) 0 p = kk then 1 else 0) (p :: L) = (if rb_hi (rb_h on) 0 p = kk then 1 else 0) + rb_ls (fun p => if rb_hi (rb_h on) 0 p = kk then 1 else 0) L from rfl, ← Int32.add_assoc, ← ea] at this
      exact this
    have In : ∀ (j i c : Nat), i + j = N → c + rb_hi (rb_h on) i (p.drop i) = rb_hi (rb_h on) 0 p → wY_hits_37 post (wY_hits_27 post (nI kk) n) (nI kk) acc (nI N) x y z any on w a (j + 1) (nI c) (nI i) := by
      have hle := rb_hi_le (rb_h1 on) p 0
      intro j
      induction j with
      | zero =>
        intro i c hi hc
        rw [List.drop_of_length_le (by omega), show rb_hi (rb_h on) i [] = 0 from rfl, Nat.add_zero] at hc
        refine br_t ((nI_leI (by omega) (by omega)).mpr (by omega)) ?_
        rw [nI_eq (by omega) (by omega), hc]
        exact br_c (fun e => nm_e (go _ (by rw [if_pos e]))) (fun e => go _ (by rw [if_neg e, Int32.add_zero]))
      | succ j jh =>
        intro i c hi hc
        have hgi := hg i (by omega)
        rw [rb_drop (by omega), show rb_hi (rb_h on) i (p.getD i 0 :: p.drop (i + 1)) = rb_h on i (p.getD i 0) + rb_hi (rb_h on) (i + 1) (p.drop (i + 1)) from rfl] at hc
        refine br_f (by rw [nI_leI (by omega) (by omega)]; omega) ⟨vp_in_nI (by omega) (by decide), ?_⟩
        rw [nI_clamp (by omega), hcol i (by omega), rb_ix, nI_clamp (by omega)]
        refine ⟨vp_in_nI (by omega) (by decide), br_c (fun e => nm_r (nI_1 i) (jh (i + 1) c (by omega) ?_)) (fun e => nm_r (nI_1 c) (nm_r (nI_1 i) (jh (i + 1) (c + 1) (by omega) ?_)))⟩
        · rw [show rb_h on i (p.getD i 0) = 0 from if_pos e, Nat.zero_add] at hc
          exact hc
        · rw [show rb_h on i (p.getD i 0) = 1 from if_neg e, ← Nat.add_assoc] at hc
          exact hc
    exact br_f (yb_At_n hu) ⟨_, In N 0 0 (by omega) (by rw [Nat.zero_add]; rfl)⟩
theorem yb_hits {post : Int32 → SY → Prop} {N kk : Nat} {x y z any : Int32} {on w a : Nat → Int32} (hN : N ≤ 6) (h0 : 0 < N) (hk : kk ≤ N)
    (hp : ∀ x y z any a, post (rb_HB N (rb_h on) kk N 0 0) (nI N, x, y, z, any, on, w, a)) : wpY_hits post (nI N, x, y, z, any, on, w, a) (nI kk) := by
  unfold wpY_hits
  dsimp only
  refine yb_bad0 hN hk (br_t rfl (yb_begin (Or.inr rfl) (yb_first hN h0 (rb_HB21 on) (Nat.le_refl N) (fun r u hu => ?_))))
  obtain ⟨x, y, z, a, rfl⟩ := yb_At_t hu
  refine ⟨_, yb_hitsL hN h0 (rb_HB21 on) hk (rb_PL N N (fun _ => true)) _ 0 r x y z a (Nat.lt_succ_self _) (fun p hq => rb_vl_lt p 0 (rb_full hN N 0 0 p (by omega) (Nat.two_pow_pos N) hq)) hu (fun x y z a => ?_)⟩
  rw [rb_PLhit hN, Int32.zero_add]
  exact hp x y z 1 a
theorem yb_hits1 {post : Int32 → SY → Prop} {N : Nat} {v x y z any : Int32} {on w a : Nat → Int32} (hN : N ≤ 6) (hk : ¬ ∃ k, k ≤ N ∧ v = nI k)
    (hp : post (-1) (nI N, x, y, z, any, on, w, a)) : wpY_hits post (nI N, x, y, z, any, on, w, a) v := by
  unfold wpY_hits
  dsimp only
  exact yb_bad1 hN hk (br_f (by decide) hp)
end
section
/-! O: the reference's cells, most, lines, needed, column -/
def rb_c1 (on : Nat → Int32) (x : Nat) : Int32 := if on x = 0 then 0 else 1
theorem yb_cells {post : Int32 → Prop} {f x y z any : Int32} {on w a : Nat → Int32} (h : post (rb_sum (rb_c1 on) 36)) : wpY_cells post (f, x, y, z, any, on, w, a) := by
  have L : ∀ (j i : Nat), i + j = 36 → wY_cells_4 post f x y z any on w a (j + 1) (rb_sum (rb_c1 on) i) (nI i) := by
    intro j
    induction j with
    | zero =>
      intro i hi
      have : i = 36 := by omega
      subst this
      exact br_t (nI_le (a := 36) (b := 36) (Nat.le_refl _) (by decide)) h
    | succ j ih =>
      intro i hi
      refine br_f (nI_ge (a := i) (b := 36) (by omega) (by decide)) ⟨vp_in_nI (by omega) (by decide), ?_⟩
      rw [nI_clamp (by omega)]
      have e := rb_sum_s (rb_c1 on) i
      refine br_c (fun q => nm_r (nI_1 i) ?_) (fun q => nm_r (e' := rb_sum (rb_c1 on) (i + 1)) ?_ (nm_r (nI_1 i) (ih (i + 1) (by omega))))
      · rw [show rb_c1 on i = 0 from if_pos q, Int32.add_zero] at e
        rw [← e]
        exact ih (i + 1) (by omega)
      · rw [e, show rb_c1 on i = 1 from if_neg q]
  exact ⟨_, L 36 0 rfl⟩
/-- the greatest number of rooks -/
def rb_mostP (N : Nat) (B : Nat → Bool) (k : Nat) : Prop := k ≤ N ∧ rb_PL N k B ≠ [] ∧ ∀ j, k < j → j ≤ N → rb_PL N j B = []
theorem rb_cf_in {N c : Nat} {F : Nat → List (List Nat)} {s : List Nat} (hc : c ≤ N) (hs : s ∈ F c) : ∀ e, N - c < e → e ≤ N + 1 → s ∈ rb_cf N F e := by
  intro e
  induction e with
  | zero => intro h; omega
  | succ e ih =>
    intro h1 h2
    rw [rb_cf_s, List.mem_append]
    by_cases q : N - e = c
    · left; rw [q]; exact hs
    · right; exact ih (by omega) (by omega)
theorem rb_PL0 {N : Nat} {B : Nat → Bool} : rb_PL N 0 B ≠ [] := by
  have : ∀ d t, ∃ s, s ∈ rb_comp N 0 B d t 0 := by
    intro d
    induction d with
    | zero => intro t; exact ⟨[], List.mem_singleton.mpr rfl⟩
    | succ d ih =>
      intro t
      obtain ⟨s, hs⟩ := ih t
      refine ⟨N :: s, ?_⟩
      rw [rb_comp_s]
      refine rb_cf_in (c := N) (Nat.le_refl N) ?_ (N + 1) (by omega) (Nat.le_refl _)
      unfold rb_pi
      rw [if_pos (by unfold rb_ok; rw [if_neg (Nat.lt_irrefl N)]; simp), show rb_nx N t N = t from if_neg (Nat.lt_irrefl N), show rb_np N 0 N = 0 from if_neg (Nat.lt_irrefl N)]
      exact List.mem_map.mpr ⟨s, hs, rfl⟩
  obtain ⟨s, hs⟩ := this N 0
  intro e
  unfold rb_PL at e
  rw [e] at hs
  exact absurd hs List.not_mem_nil
theorem rb_most_ex (N : Nat) (B : Nat → Bool) : ∃ k, rb_mostP N B k := by
  have : ∀ m, m ≤ N → (∃ k, k ≤ m ∧ rb_PL N k B ≠ [] ∧ ∀ j, k < j → j ≤ m → rb_PL N j B = []) := by
    intro m
    induction m with
    | zero => intro _; exact ⟨0, Nat.le_refl _, rb_PL0, fun j h1 h2 => by omega⟩
    | succ m ih =>
      intro hm
      by_cases e : rb_PL N (m + 1) B = []
      · obtain ⟨k, h1, h2, h3⟩ := ih (by omega)
        refine ⟨k, by omega, h2, fun j j1 j2 => ?_⟩
        by_cases q : j = m + 1
        · rw [q]; exact e
        · exact h3 j j1 (by omega)
      · exact ⟨m + 1, Nat.le_refl _, e, fun j h1 h2 => by omega⟩
  exact this N (Nat.le_refl N)
theorem yb_most {post : Int32 → SY → Prop} {N K : Nat} {x y z any : Int32} {on w a : Nat → Int32} (hN : N ≤ 6) (h0 : 0 < N) (hK : rb_mostP N (rb_B on) K)
    (hp : ∀ x y z any a, post (nI K) (nI N, x, y, z, any, on, w, a)) : wpY_most post (nI N, x, y, z, any, on, w, a) := by
  obtain ⟨k1, k2, k3⟩ := hK
  have L : ∀ (j : Nat), K + j ≤ N → ∀ (x y z any : Int32) (a : Nat → Int32), wY_most_7 post (j + 2) (nI (K + j)) 0 (nI N) x y z any on w a := by
    intro j
    induction j with
    | zero =>
      intro hj x y z any a
      refine br_t rfl (yb_begin (Or.inl rfl) (yb_first (B := rb_B on) (k := K) hN h0 (rb_HB20 on) k1 (fun r u hu => ?_)))
      obtain ⟨x, y, z, a, rfl⟩ := yb_At_t hu
      cases e : rb_PL N K (rb_B on) with
      | nil => exact absurd e k2
      | cons p L =>
        rw [e] at hu
        have hr := yb_At_n hu
        exact br_f hr (br_f hr (hp x y z 0 a))
    | succ j ih =>
      intro hj x y z any a
      refine br_t rfl (yb_begin (Or.inl rfl) (yb_first (B := rb_B on) (k := K + (j + 1)) hN h0 (rb_HB20 on) hj (fun r u hu => ?_)))
      obtain ⟨x, y, z, a, rfl⟩ := yb_At_t hu
      rw [k3 (K + (j + 1)) (by omega) hj] at hu
      have hr := yb_At_0 hu
      subst hr
      exact br_t rfl (nm_r (pk_m1 (K + j)) (ih (by omega) x y z 0 a))
  have := L (N - K) (by omega) x y z any a
  rw [show K + (N - K) = N by omega] at this
  exact ⟨_, this⟩
/-! lines -/
theorem yb_covers {post : Int32 → Prop} {N S : Nat} {x y z any : Int32} {on w a : Nat → Int32} (hN : N ≤ 6) (hS : S < 2 ^ 31) (h1 : rb_cov N (rb_B on) S → post 1) (h0 : ¬ rb_cov N (rb_B on) S → post 0) :
    wpY_covers post (nI N, x, y, z, any, on, w, a) (nI S) := by
  have hb : ∀ q, rb_B on q = true ↔ ¬ on q = 0 := fun q => by unfold rb_B; rw [decide_eq_true_eq]
  have In : ∀ (J : Int32 → Prop) (r : Nat), r < N → ((∀ c, c < N → rb_B on (6 * r + c) = true → S.testBit r = true ∨ S.testBit (N + c) = true) → J (nI (r + 1))) →
      ∀ (j c : Nat), c + j = N → (∀ c', c' < c → rb_B on (6 * r + c') = true → S.testBit r = true ∨ S.testBit (N + c') = true) → wY_covers_12 post J (nI S) (nI r) (nI N) x y z any on w a (j + 1) (nI c) := by
    intro J r hr hJ j
    induction j with
    | zero =>
      intro c hc hd
      have : c = N := by omega
      subst this
      exact br_t (nI_le (Nat.le_refl _) (by omega)) (nm_r (nI_1 r) (hJ hd))
    | succ j ih =>
      intro c hc hd
      refine br_f (by rw [nI_leI (by omega) (by omega)]; omega) ?_
      rw [rb_ix, nI_clamp (by omega), nI_add, rb_shr1_0 hS (by omega), rb_shr1_0 hS (by omega)]
      have next : (rb_B on (6 * r + c) = true → S.testBit r = true ∨ S.testBit (N + c) = true) → wY_covers_12 post J (nI S) (nI r) (nI N) x y z any on w a (j + 1) (nI (c + 1)) := by
        intro hh
        refine ih (c + 1) (by omega) (fun c' hc' => ?_)
        by_cases q : c' = c
        · subst q; exact hh
        · exact hd c' (by omega)
      refine ⟨vp_in_nI (by omega) (by decide), br_c (fun e => nm_r (nI_1 c) (next (fun q => absurd e ((hb _).mp q)))) (fun e => br_c (fun t1 => br_c (fun t2 => h0 (fun hcv => ?_)) (fun t2 => nm_r (nI_1 c) (next (fun _ => Or.inr (eq_true_of_ne_false t2))))) (fun t1 => nm_r (nI_1 c) (next (fun _ => Or.inl (eq_true_of_ne_false t1)))))⟩
      rcases hcv r hr c (by omega) ((hb _).mpr e) with q | q
      · rw [t1] at q; exact absurd q (by decide)
      · rw [t2] at q; exact absurd q (by decide)
  have Out : ∀ (j r : Nat), r + j = N → (∀ r', r' < r → ∀ c, c < N → rb_B on (6 * r' + c) = true → S.testBit r' = true ∨ S.testBit (N + c) = true) → wY_covers_2 post (nI S) (nI N) x y z any on w a (j + 1) (nI r) := by
    intro j
    induction j with
    | zero =>
      intro r hr hd
      have : r = N := by omega
      subst this
      exact br_t (nI_le (Nat.le_refl _) (by omega)) (h1 hd)
    | succ j ih =>
      intro r hr hd
      refine br_f (by rw [nI_leI (by omega) (by omega)]; omega) ⟨_, In _ r (by omega) (fun hrow => ih (r + 1) (by omega) (fun r' hr' => ?_)) N 0 (by omega) (fun c' hc' => absurd hc' (Nat.not_lt_zero _))⟩
      by_cases q : r' = r
      · subst q; exact hrow
      · exact hd r' (by omega)
  exact ⟨_, Out N 0 (by omega) (fun r' hr' => absurd hr' (Nat.not_lt_zero _))⟩
theorem yb_lines {post : Int32 → Prop} {N : Nat} {x y z any : Int32} {on w a : Nat → Int32} (hN : N ≤ 6)
    (h : ∀ l, (∀ S, S < 2 ^ (N + N) → rb_cov N (rb_B on) S → l ≤ rb_cnt S (N + N)) → (l = N + N ∨ ∃ S, S < 2 ^ (N + N) ∧ rb_cov N (rb_B on) S ∧ rb_cnt S (N + N) = l) → post (nI l)) :
    wpY_lines post (nI N, x, y, z, any, on, w, a) := by
  have e2 : (2 : Int32) * nI N = nI (N + N) := by
    show nI 2 * nI N = _
    rw [pk_mul]
    exact congrArg nI (by omega)
  have hp : 2 ^ (N + N) ≤ 2 ^ 12 := Nat.pow_le_pow_right (by decide) (by omega)
  have In : ∀ (J : Int32 → Int32 → Prop) (l S : Nat), l ≤ N + N → S < 2 ^ (N + N) → (∀ l', l' ≤ l → (rb_cov N (rb_B on) S → l' ≤ rb_cnt S (N + N)) → (l' = l ∨ (rb_cov N (rb_B on) S ∧ rb_cnt S (N + N) = l')) → J (nI l') (nI (S + 1))) →
      ∀ (j b : Nat), b + j = N + N → wY_lines_26 post J (nI l) (nI S) (nI N) x y z any on w a (j + 1) (nI (rb_cnt S b)) (nI b) := by
    intro J l S hl hS hJ j
    induction j with
    | zero =>
      intro b hb
      have : b = N + N := by omega
      subst this
      have hc := rb_cnt_le S (N + N)
      unfold wY_lines_26
      rw [e2, nI_leI (by omega) (by omega), nI_leI (by omega) (by omega)]
      refine br_t (Nat.le_refl _) (br_c (fun q => nm_r (nI_1 S) (hJ l (Nat.le_refl l) (fun _ => q) (Or.inl rfl))) (fun q => yb_covers hN (by omega) (fun hcv => br_f (by decide) (nm_r (nI_1 S) (hJ _ (by omega) (fun _ => Nat.le_refl _) (Or.inr ⟨hcv, rfl⟩)))) (fun hcv => br_t rfl (nm_r (nI_1 S) (hJ l (Nat.le_refl l) (fun q => absurd q hcv) (Or.inl rfl))))))
    | succ j ih =>
      intro b hb
      unfold wY_lines_26
      rw [e2, nI_leI (by omega) (by omega), rb_shr1 (by omega) (by omega)]
      exact br_f (by omega) (nm_r (nI_add _ _) (nm_r (nI_1 b) (ih (b + 1) (by omega))))
  have Out : ∀ (j S l : Nat), S + j = 2 ^ (N + N) → l ≤ N + N → (∀ S', S' < S → rb_cov N (rb_B on) S' → l ≤ rb_cnt S' (N + N)) → (l = N + N ∨ ∃ S', S' < 2 ^ (N + N) ∧ rb_cov N (rb_B on) S' ∧ rb_cnt S' (N + N) = l) → wY_lines_9 post (nI N) x y z any on w a (j + 1) (nI l) (nI S) := by
    intro j
    induction j with
    | zero =>
      intro S l hS hl h1 h2
      unfold wY_lines_9
      rw [e2, rb_1shl (N + N) (by omega), nI_leI (by omega) (by omega)]
      have : S = 2 ^ (N + N) := by omega
      subst this
      exact br_t (Nat.le_refl _) (h l h1 h2)
    | succ j ih =>
      intro S l hS hl h1 h2
      unfold wY_lines_9
      rw [e2, rb_1shl (N + N) (by omega), nI_leI (by omega) (by omega)]
      refine br_f (by omega) ⟨_, In _ l S hl (by omega) (fun l' hl' q1 q2 => ih (S + 1) l' (by omega) (by omega) (fun S' hS' hcv => ?_) ?_) (N + N) 0 (by omega)⟩
      · by_cases q : S' = S
        · subst q; exact q1 hcv
        · have := h1 S' (by omega) hcv; omega
      · rcases q2 with q | ⟨q, q'⟩
        · rw [q]; exact h2
        · exact Or.inr ⟨S, by omega, q, q'⟩
  have := Out (2 ^ (N + N)) 0 (N + N) (by omega) (Nat.le_refl _) (fun S' h' => absurd h' (Nat.not_lt_zero _)) (Or.inl rfl)
  exact nm_r e2 ⟨_, this⟩
/-! needed -/
def rb_nd (N : Nat) (on : Nat → Int32) (K x : Nat) : Int32 := if on x = 0 then 0 else if rb_thr N (rb_B on) K x = nI (rb_PL N K (rb_B on)).length then 1 else 0
theorem yb_needed {post : Int32 → SY → Prop} {N K : Nat} {x y z any : Int32} {on w a : Nat → Int32} (hN : N ≤ 6) (h0 : 0 < N) (hK : rb_mostP N (rb_B on) K) (hoff : ∀ r c, r < 6 → c < 6 → (N ≤ r ∨ N ≤ c) → on (6 * r + c) = 0)
    (hp : ∀ x y z any a, post (rb_sum (rb_nd N on K) 36) (nI N, x, y, z, any, on, w, a)) : wpY_needed post (nI N, x, y, z, any, on, w, a) := by
  unfold wpY_needed
  dsimp only
  refine yb_most hN h0 hK (fun x y z any a => yb_rooks hN h0 hK.1 (fun x y z any a => ?_))
  have L : ∀ (j i : Nat), i + j = 36 → ∀ (x y z any : Int32) (a : Nat → Int32), wY_needed_16 post (nI K) (nI (rb_PL N K (rb_B on)).length) (j + 1) (rb_sum (rb_nd N on K) i) (nI i) (nI N) x y z any on w a := by
    intro j
    induction j with
    | zero =>
      intro i hi x y z any a
      have : i = 36 := by omega
      subst this
      exact br_t (nI_le (a := 36) (b := 36) (Nat.le_refl _) (by decide)) (hp x y z any a)
    | succ j ih =>
      intro i hi x y z any a
      have e := rb_sum_s (rb_nd N on K) i
      refine br_f (nI_ge (a := i) (b := 36) (by omega) (by decide)) ⟨vp_in_nI (by omega) (by decide), ?_⟩
      rw [nI_clamp (by omega)]
      refine br_c (fun q => nm_r (nI_1 i) ?_) (fun q => ?_)
      · rw [show rb_nd N on K i = 0 from if_pos q, Int32.add_zero] at e
        rw [← e]
        exact ih (i + 1) (by omega) x y z any a
      · obtain ⟨r, c, hr, hc, rfl⟩ : ∃ r c, r < 6 ∧ c < 6 ∧ i = 6 * r + c := ⟨i / 6, i % 6, by omega, by omega, by omega⟩
        have hrN : r < N := by
          rcases Nat.lt_or_ge r N with h | h
          · exact h
          · exact absurd (hoff r c hr hc (Or.inl h)) q
        have hcN : c < N := by
          rcases Nat.lt_or_ge c N with h | h
          · exact h
          · exact absurd (hoff r c hr hc (Or.inr h)) q
        have e3 : rb_nd N on K (6 * r + c) = if rb_thr N (rb_B on) K (6 * r + c) = nI (rb_PL N K (rb_B on)).length then 1 else 0 := if_neg q
        refine yb_through hN h0 hK.1 hrN hcN (fun x y z any a => br_c (fun t => nm_r (e' := rb_sum (rb_nd N on K) (6 * r + c + 1)) ?_ (nm_r (nI_1 _) (ih (6 * r + c + 1) (by omega) x y z any a))) (fun t => nm_r (nI_1 _) ?_))
        · rw [e, e3, if_pos t]
        · rw [e3, if_neg t, Int32.add_zero] at e
          rw [← e]
          exact ih (6 * r + c + 1) (by omega) x y z any a
  exact ⟨_, L 36 0 rfl x y z any a⟩
/-! column -/
theorem yb_columnL {post : Int32 → SY → Prop} {N k i r0 : Nat} {on w : Nat → Int32} {B : Nat → Bool} {any : Int32} (hN : N ≤ 6) (h0 : 0 < N) (hB : rb_HB2 any on B) (hk : k ≤ N) (hi : i < 2 ^ 31) (hr : r0 < N)
    (h1 : ∀ p, (rb_PL N k B)[i]? = some p → ∀ x y z a, post (nI (p.getD r0 0)) (nI N, x, y, z, any, on, w, a)) (h2 : (rb_PL N k B)[i]? = none → ∀ x y z a, post (-4) (nI N, x, y, z, any, on, w, a)) :
    ∀ (M : List (List Nat)) (n m : Nat) (r x y z : Int32) (a : Nat → Int32), M.length + 1 < n → m ≤ i → (rb_PL N k B).drop m = M → yb_At N k B any on w M r (nI N, x, y, z, any, on, w, a) →
      wY_column_41 post (nI k) (nI i) (nI r0) n r (nI m) (nI N) x y z any on w a := by
  intro M
  induction M with
  | nil =>
    intro n m r x y z a hn hm hM hu
    obtain ⟨n, rfl⟩ : ∃ m, n = m + 1 := ⟨n - 1, by omega⟩
    have hr0 := yb_At_0 hu
    have hlen : (rb_PL N k B).length ≤ m := List.drop_eq_nil_iff.mp hM
    have hnone : (rb_PL N k B)[i]? = none := List.getElem?_eq_none (by omega)
    have e66 : wY_column_66 post (nI r0) r (nI N) x y z any on w a := br_t hr0 (h2 hnone x y z a)
    exact br_c (fun _ => e66) (fun _ => br_t hr0 e66)
  | cons p L ih =>
    intro n m r x y z a hn hm hM hu
    obtain ⟨n, rfl⟩ : ∃ m, n = m + 1 := ⟨n - 1, by omega⟩
    obtain ⟨hl, hcol⟩ := yb_At_c hu
    have hm1 : (rb_PL N k B)[m]? = some p := by
      have := List.getElem?_drop (xs := rb_PL N k B) (i := m) (j := 0)
      rw [hM] at this
      rw [Nat.add_zero] at this
      exact this.symm
    unfold wY_column_41
    rw [nI_leI hi (by omega)]
    by_cases q : i ≤ m
    · have : m = i := by omega
      subst this
      refine br_t q (br_f (yb_At_n hu) ⟨vp_in_nI (by omega) (by decide), ?_⟩)
      rw [nI_clamp (by omega), hcol r0 hr]
      exact h1 p hm1 x y z a
    · refine br_f q (br_f (yb_At_n hu) (yb_again hN h0 hB hk hu (fun r u hu' => ?_)))
      obtain ⟨x, y, z, a, rfl⟩ := yb_At_t hu'
      refine nm_r (nI_1 m) (ih n (m + 1) r x y z a (by rw [List.length_cons] at hn; omega) (by omega) ?_ hu')
      rw [← List.drop_drop, hM]
      rfl
theorem yb_noRow0 {post : Int32 → Prop} {N k : Nat} {x y z any : Int32} {on w a : Nat → Int32} (hN : N ≤ 6) (hk : k < N) (h : post 0) : wpY_noRow post (nI N, x, y, z, any, on, w, a) (nI k) :=
  br_f (nI_pos (by omega)) (br_t ((nI_ltI (by omega) (by omega)).mpr hk) h)
theorem yb_noRow1 {post : Int32 → Prop} {N : Nat} {v x y z any : Int32} {on w a : Nat → Int32} (hN : N ≤ 6) (hk : ¬ ∃ k, k < N ∧ v = nI k) (h : post 1) : wpY_noRow post (nI N, x, y, z, any, on, w, a) v := by
  refine br_c (fun _ => h) (fun h0 => br_f (fun h1 => hk ?_) h)
  obtain ⟨j, hj, rfl⟩ := nI_of h0
  exact ⟨j, (nI_ltI hj (by omega)).mp h1, rfl⟩
theorem yb_column {post : Int32 → SY → Prop} {N k i r0 : Nat} {x y z any : Int32} {on w a : Nat → Int32} (hN : N ≤ 6) (h0 : 0 < N) (hk : k ≤ N) (hr : r0 < N) (hi : i < 2 ^ 31)
    (h1 : ∀ p, (rb_PL N k (rb_B on))[i]? = some p → ∀ x y z any a, post (nI (p.getD r0 0)) (nI N, x, y, z, any, on, w, a)) (h2 : (rb_PL N k (rb_B on))[i]? = none → ∀ x y z any a, post (-4) (nI N, x, y, z, any, on, w, a)) :
    wpY_column post (nI N, x, y, z, any, on, w, a) (nI k) (nI i) (nI r0) := by
  unfold wpY_column
  dsimp only
  refine yb_bad0 hN hk (br_t rfl (yb_noRow0 hN hr (br_t rfl (br_t (nI_pos' hi) (yb_begin (Or.inl rfl) (yb_first hN h0 (rb_HB20 on) hk (fun r u hu => ?_)))))))
  obtain ⟨x, y, z, a, rfl⟩ := yb_At_t hu
  exact ⟨_, yb_columnL hN h0 (rb_HB20 on) hk hi hr (fun p hp x y z a => h1 p hp x y z 0 a) (fun hp x y z a => h2 hp x y z 0 a) (rb_PL N k (rb_B on)) ((rb_PL N k (rb_B on)).length + 2) 0 r x y z a (by omega) (Nat.zero_le i) rfl hu⟩
theorem yb_columnN {post : Int32 → SY → Prop} {N k r0 : Nat} {v x y z any : Int32} {on w a : Nat → Int32} (hN : N ≤ 6) (hk : k ≤ N) (hr : r0 < N) (hv : v < 0)
    (h : post (-4) (nI N, x, y, z, any, on, w, a)) : wpY_column post (nI N, x, y, z, any, on, w, a) (nI k) v (nI r0) := by
  unfold wpY_column
  dsimp only
  exact yb_bad0 hN hk (br_t rfl (yb_noRow0 hN hr (br_t rfl (br_f (Int32.not_le.mpr hv) h))))
theorem yb_column1 {post : Int32 → SY → Prop} {N : Nat} {v v2 v3 x y z any : Int32} {on w a : Nat → Int32} (hN : N ≤ 6) (hk : ¬ ((∃ k, k ≤ N ∧ v = nI k) ∧ ∃ k, k < N ∧ v3 = nI k))
    (h : post (-1) (nI N, x, y, z, any, on, w, a)) : wpY_column post (nI N, x, y, z, any, on, w, a) v v2 v3 := by
  unfold wpY_column
  dsimp only
  by_cases q : ∃ k, k ≤ N ∧ v = nI k
  · obtain ⟨k, hk1, rfl⟩ := q
    exact yb_bad0 hN hk1 (br_t rfl (yb_noRow1 hN (fun t => hk ⟨⟨k, hk1, rfl⟩, t⟩) (br_f (by decide) h)))
  · exact yb_bad1 hN q (br_f (by decide) h)
end
section
/-! P: the class: counts and sums over masks -/
theorem xb_line1 {post : Int32 → Prop} {N k : Nat} {on w bm hm : Nat → Int32} (hN : N ≤ 6) (hk : k < N) (h : post 1) : wpX_isLine post (nI N, on, w, bm, hm) (nI k) :=
  br_f (nI_pos (by omega)) (br_f (by rw [nI_leI (by omega) (by omega)]; omega) h)
theorem xb_line0 {post : Int32 → Prop} {N : Nat} {v : Int32} {on w bm hm : Nat → Int32} (hN : N ≤ 6) (hk : ¬ ∃ k, k < N ∧ v = nI k) (h : post 0) : wpX_isLine post (nI N, on, w, bm, hm) v := by
  refine br_c (fun _ => h) (fun h0 => br_t ?_ h)
  obtain ⟨j, hj, rfl⟩ := nI_of h0
  rw [nI_leI (by omega) hj]
  rcases Nat.lt_or_ge j N with q | q
  · exact absurd ⟨j, q, rfl⟩ hk
  · exact q
theorem xb_rc1 {post : Int32 → Prop} {N k : Nat} {on w bm hm : Nat → Int32} (hN : N ≤ 6) (hk : k ≤ N) (h : post 1) : wpX_isRookCount post (nI N, on, w, bm, hm) (nI k) :=
  br_f (nI_pos (by omega)) (br_f (by rw [nI_ltI (by omega) (by omega)]; omega) h)
theorem xb_rc0 {post : Int32 → Prop} {N : Nat} {v : Int32} {on w bm hm : Nat → Int32} (hN : N ≤ 6) (hk : ¬ ∃ k, k ≤ N ∧ v = nI k) (h : post 0) : wpX_isRookCount post (nI N, on, w, bm, hm) v := by
  refine br_c (fun _ => h) (fun h0 => br_t ?_ h)
  obtain ⟨j, hj, rfl⟩ := nI_of h0
  rw [nI_ltI (by omega) hj]
  rcases Nat.lt_or_ge N j with q | q
  · exact q
  · exact absurd ⟨j, q, rfl⟩ hk
theorem xb_cell1 {post : Int32 → Prop} {N r c : Nat} {on w bm hm : Nat → Int32} (hN : N ≤ 6) (hr : r < N) (hc : c < N) (h : post 1) : wpX_isCell post (nI N, on, w, bm, hm) (nI (6 * r + c)) := by
  unfold wpX_isCell
  dsimp only
  have e2 := rb_rem6 (r := r) (c := c) (by omega) (by omega)
  rw [rb_div6 (by omega) (by omega)] at e2 ⊢
  rw [e2]
  exact br_f (nI_pos (by omega)) ⟨rb_60, br_f (by rw [nI_leI (by omega) (by omega)]; omega) ⟨rb_60, br_f (by rw [nI_leI (by omega) (by omega)]; omega) h⟩⟩
theorem xb_cell0 {post : Int32 → Prop} {N : Nat} {v : Int32} {on w bm hm : Nat → Int32} (hN : N ≤ 6) (hv : ¬ ∃ r c, r < N ∧ c < N ∧ v = nI (6 * r + c)) (h : post 0) : wpX_isCell post (nI N, on, w, bm, hm) v := by
  unfold wpX_isCell
  dsimp only
  refine br_c (fun _ => h) (fun g0 => ⟨rb_60, ?_⟩)
  obtain ⟨j, hj, rfl⟩ := nI_of g0
  have e1 : nI j / 6 = nI (j / 6) := pk_div (d := 6) hj (by decide) (by decide)
  have e2 : nI j - nI j / 6 * 6 = nI (j % 6) := pk_rem (d := 6) hj (by decide) (by decide)
  rw [e2, e1, nI_leI (by omega) (by omega), nI_leI (by omega) (by omega)]
  refine br_c (fun _ => h) (fun q1 => ⟨rb_60, br_t ?_ h⟩)
  rcases Nat.lt_or_ge (j % 6) N with q | q
  · exact absurd ⟨j / 6, j % 6, by omega, q, congrArg nI (by omega)⟩ hv
  · exact q
theorem xb_bc {post : Int32 → Prop} {m : Nat} (hm : m < 2 ^ 31) (h : post (nI (rb_pc m))) : wpX_bitCount post (nI m) := by
  have L : ∀ (j b : Nat), b + j = 6 → wX_bitCount_4 post (nI m) (j + 1) (nI (rb_cnt m b)) (nI b) := by
    intro j
    induction j with
    | zero =>
      intro b hb
      have : b = 6 := by omega
      subst this
      rw [rb_cnt6]
      exact br_t (nI_le (a := 6) (b := 6) (Nat.le_refl _) (by decide)) h
    | succ j ih =>
      intro b hb
      refine br_f (nI_ge (a := b) (b := 6) (by omega) (by decide)) ?_
      rw [rb_shr1 hm (by omega)]
      exact nm_r (nI_add _ _) (nm_r (nI_1 b) (ih (b + 1) (by omega)))
  exact ⟨_, L 6 0 rfl⟩
theorem xb_start {post : SX → Prop} {N u : Nat} {on w bm hm : Nat → Int32} (hu : u < 64) (h : ∀ bm', (∀ m, m < 64 → bm' m = if m = u then 1 else 0) → post (nI N, on, w, bm', hm)) : wpX_startWith post (nI N, on, w, bm, hm) (nI u) := by
  have L : ∀ (j i : Nat) (cur : Nat → Int32), i + j = 64 → (∀ m, m < i → cur m = 0) → wX_startWith_2 post (nI u) (nI N) (j + 1) (nI i) on w cur hm := by
    intro j
    induction j with
    | zero =>
      intro i cur hi hc
      have : i = 64 := by omega
      subst this
      refine br_t (nI_le (a := 64) (b := 64) (Nat.le_refl _) (by decide)) ⟨vp_in_nI hu (by decide), nm_r (e' := upd cur u 1) (by rw [nI_clamp (by omega)]) (h _ (fun m hm' => ?_))⟩
      by_cases q : m = u
      · rw [q, pk_us, if_pos rfl]
      · rw [pk_un q, if_neg q, hc m hm']
    | succ j ih =>
      intro i cur hi hc
      refine br_f (nI_ge (a := i) (b := 64) (by omega) (by decide)) ⟨vp_in_nI (by omega) (by decide), nm_r (e' := upd cur i 0) (by rw [nI_clamp (by omega)]) (nm_r (nI_1 i) (ih (i + 1) _ (by omega) (fun m hm' => ?_)))⟩
      by_cases q : m = i
      · rw [q, pk_us]
      · rw [pk_un q, hc m (by omega)]
  exact ⟨_, L 64 0 bm rfl (fun m hm' => absurd hm' (Nat.not_lt_zero _))⟩
def rb_fac (wt : Int32) (w : Nat → Int32) : Nat → Nat → Nat → Int32 := fun r _ c => if wt = 0 then 1 else w (6 * r + c)
theorem rb_Bt {on : Nat → Int32} {x : Nat} (h : ¬ on x = 0) : rb_B on x = true := decide_eq_true h
theorem rb_Bf {on : Nat → Int32} {x : Nat} (h : on x = 0) : rb_B on x = false := decide_eq_false (fun q => q h)
theorem xb_addRow {post : SX → Prop} {N r : Nat} {wt : Int32} {on w bm hm : Nat → Int32} (hN : N ≤ 6) (hr : r < N)
    (h : ∀ bm', (∀ m, m < 2 ^ N → bm' m = bm m + rb_row N (rb_B on) (rb_fac wt w) r bm m) → post (nI N, on, w, bm', hm)) : wpX_addRow post (nI N, on, w, bm, hm) (nI r) wt := by
  have h6 := rb_p6 hN
  have hp := Nat.two_pow_pos N
  let g : Nat → Nat → Int32 := fun m c => if m.testBit c && rb_B on (6 * r + c) then bm (m - 2 ^ c) * rb_fac wt w r (m - 2 ^ c) c else 0
  have eg : ∀ m c, g m c = if m.testBit c && rb_B on (6 * r + c) then bm (m - 2 ^ c) * rb_fac wt w r (m - 2 ^ c) c else 0 := fun _ _ => rfl
  have erow : ∀ m, rb_row N (rb_B on) (rb_fac wt w) r bm m = rb_sum (g m) N := fun _ => rfl
  have In : ∀ (J : Int32 → (Nat → Int32) → (Nat → Int32) → (Nat → Int32) → (Nat → Int32) → Prop) (q : Nat), q + 1 < 2 ^ N →
      (∀ cur, (∀ m, m < q + 1 → cur m = bm m) → (∀ m, q < m → m < 2 ^ N → cur m = bm m + rb_sum (g m) N) → J (nI q) on w cur hm) →
      ∀ (j c : Nat) (cur : Nat → Int32), c + j = N → (∀ m, m < q + 1 → cur m = bm m) → cur (q + 1) = bm (q + 1) + rb_sum (g (q + 1)) c → (∀ m, q + 1 < m → m < 2 ^ N → cur m = bm m + rb_sum (g m) N) →
        wX_addRow_16 post J (nI r) wt (nI (q + 1)) (nI N) (j + 1) (nI c) on w cur hm := by
    intro J q hq hJ j
    induction j with
    | zero =>
      intro c cur hc h1 h2 h3
      have : c = N := by omega
      subst this
      refine br_t (nI_le (Nat.le_refl _) (by omega)) (nm_r (pk_m1 q) (hJ cur h1 (fun m hm1 hm2 => ?_)))
      by_cases e : m = q + 1
      · rw [e]; exact h2
      · exact h3 m (by omega) hm2
    | succ j ih =>
      intro c cur hc h1 h2 h3
      refine br_f (by rw [nI_leI (by omega) (by omega)]; omega) (nm_r (rb_ix r c) (nm_r (rb_1shl c (by omega)) ?_))
      rw [rb_andb (q + 1) (by omega) c (by omega), nI_clamp (by omega)]
      have es := rb_sum_s (g (q + 1)) c
      have skip : g (q + 1) c = 0 → wX_addRow_16 post J (nI r) wt (nI (q + 1)) (nI N) (j + 1) (nI (c + 1)) on w cur hm := by
        intro z
        rw [z, Int32.add_zero] at es
        exact ih (c + 1) cur (by omega) h1 (by rw [es]; exact h2) h3
      refine br_c (fun t => nm_r (nI_1 c) (skip (by rw [eg, t]; rfl))) (fun t => ⟨vp_in_nI (by omega) (by decide), br_c (fun o => nm_r (nI_1 c) (skip (by rw [eg, rb_Bf o, Bool.and_false]; rfl))) (fun o => ?_)⟩)
      have t' : (q + 1).testBit c = true := eq_true_of_ne_false t
      obtain ⟨m1, _, _⟩ := rb_mg hN hq (by omega) t'
      have hpos : 0 < 2 ^ c := Nat.two_pow_pos c
      have step : ∀ z : Int32, z = rb_fac wt w r (q + 1 - 2 ^ c) c → wX_addRow_72 post J (wX_addRow_16 post J (nI r) wt (nI (q + 1)) (nI N) (j + 1)) (nI r) wt (nI (q + 1)) (nI c) (nI (2 ^ c)) z (nI N) on w cur hm := by
        intro z ez
        unfold wX_addRow_72
        rw [pk_sub m1, nI_clamp (by omega), nI_clamp (by omega)]
        refine ⟨vp_in_nI (by omega) (by decide), vp_in_nI (by omega) (by decide), vp_in_nI (by omega) (by decide), nm_e (nm_r (nI_1 c) (ih (c + 1) _ (by omega) (fun m hm' => ?_) ?_ (fun m hm1 hm2 => ?_)))⟩
        · rw [pk_un (by omega)]; exact h1 m hm'
        · rw [pk_us, es, h2, h1 _ (by omega), Int32.add_assoc, eg, t', rb_Bt o, ez]
          rfl
        · rw [pk_un (by omega)]; exact h3 m hm1 hm2
      exact br_c (fun z => step _ (by unfold rb_fac; rw [if_pos z])) (fun z => ⟨vp_in_nI (by omega) (by decide), step _ (by unfold rb_fac; rw [if_neg z])⟩)
  have Out : ∀ (q : Nat) (cur : Nat → Int32), q < 2 ^ N → (∀ m, m < q + 1 → cur m = bm m) → (∀ m, q < m → m < 2 ^ N → cur m = bm m + rb_sum (g m) N) → wX_addRow_9 post (nI r) wt (nI N) (q + 1) (nI q) on w cur hm := by
    intro q
    induction q with
    | zero =>
      intro cur hq h1 h2
      refine br_t (nI_le (a := 0) (b := 0) (Nat.le_refl _) (by decide)) (h cur (fun m hm' => ?_))
      rw [erow]
      by_cases e : m = 0
      · rw [e, h1 0 (by omega), rb_sum_z (fun c _ => by rw [eg, Nat.zero_testBit]; rfl), Int32.add_zero]
      · exact h2 m (by omega) hm'
    | succ q ih =>
      intro cur hq h1 h2
      exact br_f (nI_nle (Nat.succ_pos q) (by omega)) ⟨_, In _ q hq (fun cur' g1 g2 => ih cur' (by omega) g1 g2) N 0 cur (by omega) (fun m hm' => h1 m (by omega)) (by rw [h1 (q + 1) (by omega)]; exact (Int32.add_zero _).symm) h2⟩
  unfold wpX_addRow
  dsimp only
  have e1 : (1 : Int32) <<< (nI N &&& 31) - 1 = nI (2 ^ N - 1) := by
    rw [rb_1shl N (by omega)]
    exact pk_sub (a := 2 ^ N) (b := 1) hp
  exact nm_r e1 ⟨_, Out (2 ^ N - 1) bm (by omega) (fun m _ => rfl) (fun m h1 h2 => by omega)⟩
theorem xb_total {post : Int32 → Prop} {N k : Nat} {on w bm hm : Nat → Int32} (hN : N ≤ 6) (hk : k ≤ N) (h : post (rb_sum (fun m => if rb_pc m = k then bm m else 0) (2 ^ N))) : wpX_totalOf post (nI N, on, w, bm, hm) (nI k) := by
  have h6 := rb_p6 hN
  have L : ∀ (j m : Nat), m + j = 2 ^ N → wX_totalOf_4 post (nI k) (nI N) on w bm hm (j + 1) (rb_sum (fun m => if rb_pc m = k then bm m else 0) m) (nI m) := by
    intro j
    induction j with
    | zero =>
      intro m hm'
      have : m = 2 ^ N := by omega
      subst this
      unfold wX_totalOf_4
      rw [rb_1shl N (by omega)]
      exact br_t (nI_le (Nat.le_refl _) (by omega)) h
    | succ j ih =>
      intro m hm'
      unfold wX_totalOf_4
      rw [rb_1shl N (by omega)]
      have es := rb_sum_s (fun m => if rb_pc m = k then bm m else 0) m
      have hpc := rb_pc_lt m
      refine br_f (nI_ge (by omega) (by omega)) (xb_bc (by omega) ?_)
      rw [nI_eq (by omega) (by omega), nI_clamp (by omega)]
      refine br_c (fun e => ⟨vp_in_nI (by omega) (by decide), nm_r (e' := rb_sum (fun m => if rb_pc m = k then bm m else 0) (m + 1)) ?_ (nm_r (nI_1 m) (ih (m + 1) (by omega)))⟩) (fun e => nm_r (nI_1 m) ?_)
      · rw [es, if_pos e]
      · rw [if_neg e, Int32.add_zero] at es
        rw [← es]
        exact ih (m + 1) (by omega)
  exact ⟨_, L (2 ^ N) 0 (by omega)⟩
theorem rb_dualr {N k d : Nat} {B : Nat → Bool} {w f : Nat → Nat → Nat → Int32} {v v' : Nat → Int32} (hw : ∀ m, w (N - (d + 1)) m N = 1) (hf : ∀ m c, c < N → w (N - (d + 1)) m c = f (N - (d + 1)) m c)
    (hv : ∀ m, m < 2 ^ N → v' m = v m + rb_row N B f (N - (d + 1)) v m) :
    rb_sum (fun m => v m * rb_CB N B w k (d + 1) m) (2 ^ N) = rb_sum (fun m => v' m * rb_CB N B w k d m) (2 ^ N) := by
  refine rb_dual hw (fun m hm => ?_)
  have : rb_row N B w (N - (d + 1)) v m = rb_row N B f (N - (d + 1)) v m := by
    unfold rb_row
    exact rb_sum_c (fun c hc => by rw [hf _ c hc])
  rw [this, hv m hm, Int32.add_mul]
theorem xb_cc {post : Int32 → SX → Prop} {N r0 u k : Nat} {on w bm hm : Nat → Int32} (hN : N ≤ 6) (hr : r0 ≤ N) (hu : u < 2 ^ N) (hk : k ≤ N)
    (h : ∀ bm', post (rb_CB N (rb_B on) rb_w1 k (N - r0) u) (nI N, on, w, bm', hm)) : wpX_countCompletions post (nI N, on, w, bm, hm) (nI r0) (nI u) (nI k) := by
  have h6 := rb_p6 hN
  have L : ∀ (j r : Nat) (cur : Nat → Int32), r + j = N → rb_sum (fun m => cur m * rb_CB N (rb_B on) rb_w1 k j m) (2 ^ N) = rb_CB N (rb_B on) rb_w1 k (N - r0) u → wX_countCompletions_8 post (nI k) (j + 1) (nI r) (nI N) on w cur hm := by
    intro j
    induction j with
    | zero =>
      intro r cur hj hs
      have : r = N := by omega
      subst this
      rw [rb_total] at hs
      exact br_t (nI_le (Nat.le_refl _) (by omega)) (xb_total hN hk (by rw [hs]; exact h cur))
    | succ j ih =>
      intro r cur hj hs
      refine br_f (by rw [nI_leI (by omega) (by omega)]; omega) (xb_addRow hN (by omega) (fun bm' hb => nm_r (nI_1 r) (ih (r + 1) bm' (by omega) ?_)))
      rw [← hs]
      have er : N - (j + 1) = r := by omega
      exact (rb_dualr (f := rb_fac 0 w) (fun m => rfl) (fun m c _ => (if_pos rfl).symm) (fun m hm' => by rw [er]; exact hb m hm')).symm
  unfold wpX_countCompletions
  dsimp only
  exact xb_start (by omega) (fun bm' hb => ⟨_, L (N - r0) r0 bm' (by omega) (rb_start hu (by rw [hb u (by omega), if_pos rfl]) (fun m hm' hne => by rw [hb m (by omega), if_neg hne]))⟩)
theorem xb_rooks {post : Int32 → SX → Prop} {N k : Nat} {on w bm hm : Nat → Int32} (hN : N ≤ 6) (hk : k ≤ N)
    (h : ∀ bm', post (nI (rb_PL N k (rb_B on)).length) (nI N, on, w, bm', hm)) : wpX_rooks post (nI N, on, w, bm, hm) (nI k) := by
  unfold wpX_rooks
  dsimp only
  refine xb_rc1 hN hk (br_f (by decide) (xb_cc (r0 := 0) (u := 0) hN (Nat.zero_le N) (Nat.two_pow_pos N) hk (fun bm' => ?_)))
  have := h bm'
  rw [← rb_PLn hN hk] at this
  exact this
theorem xb_rooks0 {post : Int32 → SX → Prop} {N : Nat} {v : Int32} {on w bm hm : Nat → Int32} (hN : N ≤ 6) (hk : ¬ ∃ k, k ≤ N ∧ v = nI k)
    (h : post (-1) (nI N, on, w, bm, hm)) : wpX_rooks post (nI N, on, w, bm, hm) v := by
  unfold wpX_rooks
  dsimp only
  exact xb_rc0 hN hk (br_t rfl h)
theorem xb_sum {post : Int32 → SX → Prop} {N k : Nat} {on w bm hm : Nat → Int32} (hN : N ≤ 6) (hk : k ≤ N)
    (h : ∀ bm', post (rb_CB N (rb_B on) (rb_wd N w) k N 0) (nI N, on, w, bm', hm)) : wpX_sum post (nI N, on, w, bm, hm) (nI k) := by
  have h6 := rb_p6 hN
  have L : ∀ (j r : Nat) (cur : Nat → Int32), r + j = N → rb_sum (fun m => cur m * rb_CB N (rb_B on) (rb_wd N w) k j m) (2 ^ N) = rb_CB N (rb_B on) (rb_wd N w) k N 0 → wX_sum_17 post (nI k) (j + 1) (nI r) (nI N) on w cur hm := by
    intro j
    induction j with
    | zero =>
      intro r cur hj hs
      have : r = N := by omega
      subst this
      rw [rb_total] at hs
      exact br_t (nI_le (Nat.le_refl _) (by omega)) (xb_total hN hk (by rw [hs]; exact h cur))
    | succ j ih =>
      intro r cur hj hs
      refine br_f (by rw [nI_leI (by omega) (by omega)]; omega) (xb_addRow hN (by omega) (fun bm' hb => nm_r (nI_1 r) (ih (r + 1) bm' (by omega) ?_)))
      rw [← hs]
      have er : N - (j + 1) = r := by omega
      exact (rb_dualr (f := rb_fac 1 w) (fun m => if_neg (Nat.lt_irrefl N)) (fun m c hc => by unfold rb_wd rb_fac; rw [if_pos hc, if_neg (by decide)]) (fun m hm' => by rw [er]; exact hb m hm')).symm
  unfold wpX_sum
  dsimp only
  refine xb_rc1 hN hk (br_f (by decide) (xb_start (u := 0) (by decide) (fun bm' hb => ⟨_, L N 0 bm' (by omega) (rb_start (Nat.two_pow_pos N) (by rw [hb 0 (by omega), if_pos rfl]) (fun m hm' hne => by rw [hb m (by omega), if_neg hne]))⟩)))
theorem xb_sum0 {post : Int32 → SX → Prop} {N : Nat} {v : Int32} {on w bm hm : Nat → Int32} (hN : N ≤ 6) (hk : ¬ ∃ k, k ≤ N ∧ v = nI k)
    (h : post (-1) (nI N, on, w, bm, hm)) : wpX_sum post (nI N, on, w, bm, hm) v := by
  unfold wpX_sum
  dsimp only
  exact xb_rc0 hN hk (br_t rfl h)
end
section
/-! Q: the class: through, most, needed -/
theorem xb_cwc {post : Int32 → SX → Prop} {N k r0 c0 : Nat} {on w bm hm : Nat → Int32} (hN : N ≤ 6) (hr : r0 < N) (hc : c0 < N) (hk : k ≤ N) (hon : ¬ on (6 * r0 + c0) = 0)
    (h : ∀ bm', post (rb_thr N (rb_B on) k (6 * r0 + c0)) (nI N, on, w, bm', hm)) : wpX_countWithCell post (nI N, on, w, bm, hm) (nI (6 * r0 + c0)) (nI k) := by
  have h6 := rb_p6 hN
  have et : rb_thr N (rb_B on) k (6 * r0 + c0) = rb_CB N (rb_B on) (rb_ws N r0) k N (2 ^ c0) := by
    unfold rb_thr
    rw [show (6 * r0 + c0) / 6 = r0 by omega, show (6 * r0 + c0) % 6 = c0 by omega, rb_forced hN hr hc (rb_Bt hon) N 0 (Nat.le_refl N) (by omega) (Nat.two_pow_pos N), Nat.zero_testBit, if_neg (by decide), Nat.zero_add]
  have hdiv := rb_div6 (r := r0) (c := c0) (by omega) (by omega)
  have L : ∀ (j r : Nat) (cur : Nat → Int32), r + j = N → rb_sum (fun m => cur m * rb_CB N (rb_B on) (rb_ws N r0) k j m) (2 ^ N) = rb_thr N (rb_B on) k (6 * r0 + c0) → wX_countWithCell_12 post (nI (6 * r0 + c0)) (nI k) (j + 1) (nI r) (nI N) on w cur hm := by
    intro j
    induction j with
    | zero =>
      intro r cur hj hs
      have : r = N := by omega
      subst this
      rw [rb_total] at hs
      exact br_t (nI_le (Nat.le_refl _) (by omega)) (xb_total hN hk (by rw [hs]; exact h cur))
    | succ j ih =>
      intro r cur hj hs
      have er : N - (j + 1) = r := by omega
      refine br_f (by rw [nI_leI (by omega) (by omega)]; omega) ⟨rb_60, ?_⟩
      rw [hdiv, nI_eq (by omega) (by omega)]
      have hwN : ∀ m, rb_ws N r0 (N - (j + 1)) m N = 1 := fun m => by
        unfold rb_ws
        split
        · exact if_pos rfl
        · rfl
      refine br_c (fun q => nm_r (nI_1 r) (ih (r + 1) cur (by omega) ?_)) (fun q => xb_addRow hN (by omega) (fun bm' hb => nm_r (nI_1 r) (ih (r + 1) bm' (by omega) ?_)))
      · rw [← hs]
        refine (rb_dual hwN (fun m hm' => ?_)).symm
        have : rb_row N (rb_B on) (rb_ws N r0) (N - (j + 1)) cur m = 0 := by
          unfold rb_row
          refine rb_sum_z (fun c hc' => ?_)
          rw [show rb_ws N r0 (N - (j + 1)) (m - 2 ^ c) c = 0 from by unfold rb_ws; rw [if_pos (by omega), if_neg (by omega)], Int32.mul_zero]
          exact ite_self _
        rw [this, Int32.zero_mul, Int32.add_zero]
      · rw [← hs]
        exact (rb_dualr (f := rb_fac 0 w) hwN (fun m c _ => by unfold rb_ws rb_fac; rw [if_neg (by omega), if_pos rfl]) (fun m hm' => by rw [er]; exact hb m hm')).symm
  have hc2 : 2 ^ c0 < 2 ^ N := Nat.pow_lt_pow_right (by decide) hc
  unfold wpX_countWithCell
  dsimp only
  rw [rb_rem6 (by omega) (by omega), rb_1shl c0 (by omega)]
  exact ⟨rb_60, xb_start (by omega) (fun bm' hb => ⟨_, L N 0 bm' (by omega) (by rw [et]; exact rb_start hc2 (by rw [hb _ (by omega), if_pos rfl]) (fun m hm' hne => by rw [hb m (by omega), if_neg hne]))⟩)⟩
theorem rb_thr0 {N k r0 c0 : Nat} {on : Nat → Int32} (hr : r0 < N) (hc : c0 < N) (hN : N ≤ 6) (hon : on (6 * r0 + c0) = 0) : rb_thr N (rb_B on) k (6 * r0 + c0) = 0 := by
  unfold rb_thr
  rw [show (6 * r0 + c0) / 6 = r0 by omega, show (6 * r0 + c0) % 6 = c0 by omega]
  exact rb_forced0 hr hc (rb_Bf hon) N 0 (Nat.le_refl N) (by omega)
theorem xb_through {post : Int32 → SX → Prop} {N k r0 c0 : Nat} {on w bm hm : Nat → Int32} (hN : N ≤ 6) (hr : r0 < N) (hc : c0 < N) (hk : k ≤ N)
    (h : ∀ bm', post (rb_thr N (rb_B on) k (6 * r0 + c0)) (nI N, on, w, bm', hm)) : wpX_through post (nI N, on, w, bm, hm) (nI (6 * r0 + c0)) (nI k) := by
  unfold wpX_through
  dsimp only
  refine xb_cell1 hN hr hc (br_f (by decide) (xb_rc1 hN hk (br_f (by decide) ⟨vp_in_nI (by omega) (by decide), ?_⟩)))
  rw [nI_clamp (by omega)]
  refine br_c (fun o => ?_) (fun o => xb_cwc hN hr hc hk o h)
  have := h bm
  rw [rb_thr0 hr hc hN o] at this
  exact this
theorem xb_through0 {post : Int32 → SX → Prop} {N : Nat} {v v2 : Int32} {on w bm hm : Nat → Int32} (hN : N ≤ 6) (hk : ¬ ((∃ r c, r < N ∧ c < N ∧ v = nI (6 * r + c)) ∧ ∃ k, k ≤ N ∧ v2 = nI k))
    (h : post (-1) (nI N, on, w, bm, hm)) : wpX_through post (nI N, on, w, bm, hm) v v2 := by
  unfold wpX_through
  dsimp only
  by_cases q : ∃ r c, r < N ∧ c < N ∧ v = nI (6 * r + c)
  · obtain ⟨r, c, hr, hc, rfl⟩ := q
    exact xb_cell1 hN hr hc (br_f (by decide) (xb_rc0 hN (fun t => hk ⟨⟨r, c, hr, hc, rfl⟩, t⟩) (br_t rfl h)))
  · exact xb_cell0 hN q (br_t rfl h)
theorem xb_great {post : Int32 → SX → Prop} {N K : Nat} {on w bm hm : Nat → Int32} (hN : N ≤ 6) (hK : rb_mostP N (rb_B on) K)
    (h : ∀ bm', post (nI K) (nI N, on, w, bm', hm)) : wpX_greatestCount post (nI N, on, w, bm, hm) := by
  obtain ⟨k1, k2, k3⟩ := hK
  have L : ∀ (j i g : Nat) (cur : Nat → Int32), i + j = N + 1 → (i ≤ K → g ≤ N) → (K < i → g = K) → wX_greatestCount_4 post (j + 1) (nI g) (nI i) (nI N) on w cur hm := by
    intro j
    induction j with
    | zero =>
      intro i g cur hi h1 h2
      rw [h2 (by omega)]
      exact br_t (nI_lt (by omega) (by omega)) (h cur)
    | succ j ih =>
      intro i g cur hi h1 h2
      refine br_f (by rw [nI_ltI (by omega) (by omega)]; omega) (xb_cc (r0 := 0) (u := 0) hN (Nat.zero_le N) (Nat.two_pow_pos N) (by omega) (fun bm' => ?_))
      have e : rb_CB N (rb_B on) rb_w1 i (N - 0) 0 = nI (rb_PL N i (rb_B on)).length := rb_PLn hN (by omega)
      rw [e]
      have hlt := rb_PLlt (k := i) (B := rb_B on) hN
      by_cases q : rb_PL N i (rb_B on) = []
      · refine br_t (by rw [q]; exact nI_le (a := 0) (b := 0) (Nat.le_refl _) (by decide)) (nm_r (nI_1 i) (ih (i + 1) g bm' (by omega) (fun t => h1 (by omega)) (fun t => ?_)))
        by_cases z : i = K
        · rw [z] at q; exact absurd q k2
        · exact h2 (by omega)
      · have hl : 0 < (rb_PL N i (rb_B on)).length := List.length_pos_iff.mpr q
        refine br_f (nI_nle hl hlt) (nm_r (nI_1 i) (ih (i + 1) i bm' (by omega) (fun t => by omega) (fun t => ?_)))
        rcases Nat.lt_or_ge K i with z | z
        · exact absurd (k3 i z (by omega)) q
        · omega
  exact ⟨_, L N 1 0 bm (by omega) (fun _ => Nat.zero_le N) (fun z => by omega)⟩
theorem xb_most {post : Int32 → SX → Prop} {N K : Nat} {on w bm hm : Nat → Int32} (hN : N ≤ 6) (hK : rb_mostP N (rb_B on) K)
    (h : ∀ bm', post (nI K) (nI N, on, w, bm', hm)) : wpX_most post (nI N, on, w, bm, hm) := by
  unfold wpX_most
  dsimp only
  exact xb_great hN hK h
/-- a sum over the cells, row by row -/
def rb_s2 (f : Nat → Int32) (N r : Nat) : Int32 := rb_sum (fun i => rb_sum (fun c => f (6 * i + c)) N) r
theorem rb_s2_s (f : Nat → Int32) (N r : Nat) : rb_s2 f N (r + 1) = rb_s2 f N r + rb_sum (fun c => f (6 * r + c)) N := rfl
theorem rb_36 (f : Nat → Int32) : ∀ r, rb_sum f (6 * r) = rb_s2 f 6 r := by
  intro r
  induction r with
  | zero => rfl
  | succ r ih => rw [show 6 * (r + 1) = 6 * r + 6 by omega, rb_sum_p, ih, rb_s2_s]
theorem rb_cut {f : Nat → Int32} {a b : Nat} (hab : a ≤ b) (h : ∀ i, a ≤ i → i < b → f i = 0) : rb_sum f b = rb_sum f a := by
  obtain ⟨d, rfl⟩ : ∃ d, b = a + d := ⟨b - a, by omega⟩
  rw [rb_sum_p, rb_sum_z (fun i hi => h (a + i) (by omega) (by omega)), Int32.add_zero]
theorem rb_s36 {f : Nat → Int32} {N : Nat} (hN : N ≤ 6) (h : ∀ r c, r < 6 → c < 6 → (N ≤ r ∨ N ≤ c) → f (6 * r + c) = 0) : rb_sum f 36 = rb_s2 f N N := by
  rw [show 36 = 6 * 6 from rfl, rb_36]
  unfold rb_s2
  rw [rb_cut hN (fun i h1 h2 => rb_sum_z (fun c hc => h i c h2 hc (Or.inl h1)))]
  exact rb_sum_c (fun i hi => rb_cut hN (fun c h1 h2 => h i c (by omega) h2 (Or.inr h1)))
theorem xb_needed {post : Int32 → SX → Prop} {N K : Nat} {on w bm hm : Nat → Int32} (hN : N ≤ 6) (hK : rb_mostP N (rb_B on) K)
    (h : ∀ bm', post (rb_s2 (rb_nd N on K) N N) (nI N, on, w, bm', hm)) : wpX_needed post (nI N, on, w, bm, hm) := by
  unfold wpX_needed
  dsimp only
  refine xb_great hN hK (fun bm' => xb_cc (r0 := 0) (u := 0) hN (Nat.zero_le N) (Nat.two_pow_pos N) hK.1 (fun bm' => ?_))
  have e : rb_CB N (rb_B on) rb_w1 K (N - 0) 0 = nI (rb_PL N K (rb_B on)).length := rb_PLn hN hK.1
  rw [e]
  have In : ∀ (J : Int32 → Int32 → Int32 → (Nat → Int32) → (Nat → Int32) → (Nat → Int32) → (Nat → Int32) → Prop) (r : Nat), r < N →
      (∀ cur, J (rb_s2 (rb_nd N on K) N (r + 1)) (nI (r + 1)) (nI N) on w cur hm) →
      ∀ (j c : Nat) (cur : Nat → Int32), c + j = N → wX_needed_30 post J (nI K) (nI (rb_PL N K (rb_B on)).length) (nI r) (j + 1) (rb_s2 (rb_nd N on K) N r + rb_sum (fun c => rb_nd N on K (6 * r + c)) c) (nI c) (nI N) on w cur hm := by
    intro J r hr hJ j
    induction j with
    | zero =>
      intro c cur hc
      have : c = N := by omega
      subst this
      exact br_t (nI_le (Nat.le_refl _) (by omega)) (nm_r (nI_1 r) (hJ cur))
    | succ j ih =>
      intro c cur hc
      have es := rb_sum_s (fun c => rb_nd N on K (6 * r + c)) c
      refine br_f (by rw [nI_leI (by omega) (by omega)]; omega) (nm_r (rb_ix r c) ⟨vp_in_nI (by omega) (by decide), ?_⟩)
      rw [nI_clamp (by omega)]
      refine br_c (fun o => nm_r (nI_1 c) ?_) (fun o => xb_cwc hN hr (by omega) hK.1 o (fun bm' => ?_))
      · have := ih (c + 1) cur (by omega)
        rw [es, show rb_nd N on K (6 * r + c) = 0 from if_pos o, Int32.add_zero] at this
        exact this
      · have e3 : rb_nd N on K (6 * r + c) = if rb_thr N (rb_B on) K (6 * r + c) = nI (rb_PL N K (rb_B on)).length then 1 else 0 := if_neg o
        have := ih (c + 1) bm' (by omega)
        rw [es, e3] at this
        refine br_c (fun t => ?_) (fun t => ?_)
        · rw [if_pos t, ← Int32.add_assoc] at this
          exact nm_e (nm_r (nI_1 c) this)
        · rw [if_neg t, Int32.add_zero] at this
          exact nm_r (nI_1 c) this
  have Out : ∀ (j r : Nat) (cur : Nat → Int32), r + j = N → wX_needed_18 post (nI K) (nI (rb_PL N K (rb_B on)).length) (j + 1) (rb_s2 (rb_nd N on K) N r) (nI r) (nI N) on w cur hm := by
    intro j
    induction j with
    | zero =>
      intro r cur hr
      have : r = N := by omega
      subst this
      exact br_t (nI_le (Nat.le_refl _) (by omega)) (h cur)
    | succ j ih =>
      intro r cur hr
      have := In _ r (by omega) (fun cur => ih (r + 1) cur (by omega)) N 0 cur (by omega)
      rw [show rb_sum (fun c => rb_nd N on K (6 * r + c)) 0 = 0 from rfl, Int32.add_zero] at this
      exact br_f (by rw [nI_leI (by omega) (by omega)]; omega) ⟨_, this⟩
  exact ⟨_, Out N 0 bm' (by omega)⟩
theorem xb_countCells {post : Int32 → Prop} {N : Nat} {on w bm hm : Nat → Int32} (hN : N ≤ 6) (h : post (rb_s2 (rb_c1 on) N N)) : wpX_countCells post (nI N, on, w, bm, hm) := by
  have In : ∀ (J : Int32 → Int32 → Prop) (r : Nat), r < N → J (rb_s2 (rb_c1 on) N (r + 1)) (nI (r + 1)) →
      ∀ (j c : Nat), c + j = N → wX_countCells_14 post J (nI r) (nI N) on w bm hm (j + 1) (rb_s2 (rb_c1 on) N r + rb_sum (fun c => rb_c1 on (6 * r + c)) c) (nI c) := by
    intro J r hr hJ j
    induction j with
    | zero =>
      intro c hc
      have : c = N := by omega
      subst this
      exact br_t (nI_le (Nat.le_refl _) (by omega)) (nm_r (nI_1 r) hJ)
    | succ j ih =>
      intro c hc
      have es := rb_sum_s (fun c => rb_c1 on (6 * r + c)) c
      refine br_f (by rw [nI_leI (by omega) (by omega)]; omega) ?_
      rw [rb_ix, nI_clamp (by omega)]
      have := ih (c + 1) (by omega)
      refine ⟨vp_in_nI (by omega) (by decide), br_c (fun o => nm_r (nI_1 c) ?_) (fun o => ?_)⟩
      · rw [es, show rb_c1 on (6 * r + c) = 0 from if_pos o, Int32.add_zero] at this
        exact this
      · rw [es, show rb_c1 on (6 * r + c) = 1 from if_neg o, ← Int32.add_assoc] at this
        exact nm_e (nm_r (nI_1 c) this)
  have Out : ∀ (j r : Nat), r + j = N → wX_countCells_4 post (nI N) on w bm hm (j + 1) (rb_s2 (rb_c1 on) N r) (nI r) := by
    intro j
    induction j with
    | zero =>
      intro r hr
      have : r = N := by omega
      subst this
      exact br_t (nI_le (Nat.le_refl _) (by omega)) h
    | succ j ih =>
      intro r hr
      have := In _ r (by omega) (ih (r + 1) (by omega)) N 0 (by omega)
      rw [show rb_sum (fun c => rb_c1 on (6 * r + c)) 0 = 0 from rfl, Int32.add_zero] at this
      exact br_f (by rw [nI_leI (by omega) (by omega)]; omega) ⟨_, this⟩
  exact ⟨_, Out N 0 (by omega)⟩
end
section
/-! R: the class: hits, the signed sum -/
theorem rb_ix7 (r c : Nat) : 7 * nI r + nI c = nI (7 * r + c) := by
  show nI 7 * nI r + nI c = _
  rw [pk_mul, nI_add]
theorem xb_addHits {post : SX → Prop} {N m f h : Nat} {on w bm hm : Nat → Int32} (hN : N ≤ 6) (hfm : f < m) (hm6 : m < 64) (hh : h ≤ 1) (h0 : 0 < N)
    (hp : ∀ hm', (∀ x, (x < 7 * m ∨ 7 * m + 7 ≤ x) → hm' x = hm x) → (∀ j, j ≤ N → hm' (7 * m + j) = hm (7 * m + j) + (if h ≤ j then hm (7 * f + (j - h)) else 0)) → post (nI N, on, w, bm, hm')) :
    wpX_addHits post (nI N, on, w, bm, hm) (nI m) (nI f) (nI h) := by
  have L : ∀ (q i : Nat) (cur : Nat → Int32), i + q = N + 1 → h ≤ i → (∀ x, (x < 7 * m ∨ 7 * m + i ≤ x) → cur x = hm x) → (∀ j, j < i → cur (7 * m + j) = hm (7 * m + j) + (if h ≤ j then hm (7 * f + (j - h)) else 0)) → wX_addHits_3 post (nI m) (nI f) (nI h) (nI N) (q + 1) (nI i) on w bm cur := by
    intro q
    induction q with
    | zero =>
      intro i cur hi hhi h1 h2
      exact br_t (nI_lt (by omega) (by omega)) (hp cur (fun x hx => h1 x (by omega)) (fun j hj => h2 j (by omega)))
    | succ q ih =>
      intro i cur hi hhi h1 h2
      refine br_f (by rw [nI_ltI (by omega) (by omega)]; omega) ?_
      rw [rb_ix7, rb_ix7, pk_sub (by omega), nI_clamp (by omega), nI_clamp (by omega)]
      refine ⟨vp_in_nI (by omega) (by decide), vp_in_nI (by omega) (by decide), vp_in_nI (by omega) (by decide), nm_e (nm_r (nI_1 i) (ih (i + 1) _ (by omega) (by omega) (fun x hx => ?_) (fun j hj => ?_)))⟩
      · rw [pk_un (by omega)]; exact h1 x (by omega)
      · by_cases e : j = i
        · rw [e, pk_us, h1 _ (by omega), h1 _ (by omega), if_pos hhi, show 7 * f + i - h = 7 * f + (i - h) by omega]
        · rw [pk_un (by omega)]; exact h2 j (by omega)
  refine ⟨_, L (N + 1 - h) h hm (by omega) (Nat.le_refl h) (fun x _ => rfl) (fun j hj => ?_)⟩
  rw [if_neg (by omega), Int32.add_zero]
/-- the row of hits for a mask -/
def rb_R (N : Nat) (h : Nat → Nat → Nat) (cur : Nat → Int32) (m j : Nat) (q : Nat) : Int32 :=
  rb_sum (fun c => if m.testBit c then (if h (rb_pc m - 1) c ≤ j then cur (7 * (m - 2 ^ c) + (j - h (rb_pc m - 1) c)) else 0) else 0) q
theorem rb_R_c {N : Nat} {h : Nat → Nat → Nat} {cur cur' : Nat → Int32} {m j q : Nat} (hj : j ≤ 6) (hc : ∀ x, x < 7 * m → cur' x = cur x) : rb_R N h cur' m j q = rb_R N h cur m j q := by
  unfold rb_R
  refine rb_sum_c (fun c _ => ?_)
  cases hb : m.testBit c
  · rfl
  · have h1 : 2 ^ c ≤ m := Nat.ge_two_pow_of_testBit hb
    have h2 : 0 < 2 ^ c := Nat.two_pow_pos c
    by_cases e : h (rb_pc m - 1) c ≤ j
    · rw [if_pos e, if_pos e, hc _ (by omega)]
    · rw [if_neg e, if_neg e]
theorem xb_fill {post : SX → Prop} {N : Nat} {on w bm hm : Nat → Int32} (hN : N ≤ 6) (h0 : 0 < N)
    (hp : ∀ cur, cur 0 = 1 → (∀ j, 0 < j → j ≤ N → cur j = 0) → (∀ m, 0 < m → m < 2 ^ N → ∀ j, j ≤ N → cur (7 * m + j) = rb_R N (rb_h on) cur m j N) → post (nI N, on, w, bm, cur)) :
    wpX_fillHits post (nI N, on, w, bm, hm) := by
  have h6 := rb_p6 hN
  have In : ∀ (J : Int32 → Int32 → (Nat → Int32) → (Nat → Int32) → (Nat → Int32) → (Nat → Int32) → Prop) (m : Nat) (c0 : Nat → Int32), 0 < m → m < 2 ^ N →
      (∀ cur, (∀ x, (x < 7 * m ∨ 7 * m + 7 ≤ x) → cur x = c0 x) → (∀ j, j ≤ N → cur (7 * m + j) = rb_R N (rb_h on) c0 m j N) → J (nI (m + 1)) (nI N) on w bm cur) →
      ∀ (q c : Nat) (cur : Nat → Int32), c + q = N → (∀ x, (x < 7 * m ∨ 7 * m + 7 ≤ x) → cur x = c0 x) → (∀ j, j ≤ N → cur (7 * m + j) = rb_R N (rb_h on) c0 m j c) → wX_fillHits_50 post J (nI m) (nI (rb_pc m - 1)) (q + 1) (nI c) (nI N) on w bm cur := by
    intro J m c0 hm0 hmN hJ q
    have hpc := (rb_pcN N (by omega) m (by omega) hmN).1
    induction q with
    | zero =>
      intro c cur hc h1 h2
      have : c = N := by omega
      subst this
      exact br_t (nI_le (Nat.le_refl _) (by omega)) (nm_r (nI_1 m) (hJ cur h1 h2))
    | succ q ih =>
      intro c cur hc h1 h2
      have es : ∀ j, rb_R N (rb_h on) c0 m j (c + 1) = rb_R N (rb_h on) c0 m j c + (if m.testBit c then (if rb_h on (rb_pc m - 1) c ≤ j then c0 (7 * (m - 2 ^ c) + (j - rb_h on (rb_pc m - 1) c)) else 0) else 0) := fun _ => rfl
      refine br_f (by rw [nI_leI (by omega) (by omega)]; omega) (nm_r (rb_1shl c (by omega)) ?_)
      rw [rb_andb m (by omega) c (by omega), rb_ix, nI_clamp (by omega)]
      refine br_c (fun t => nm_r (nI_1 c) (ih (c + 1) cur (by omega) h1 (fun j hj => ?_))) (fun t => ⟨vp_in_nI (by omega) (by decide), ?_⟩)
      · rw [es, t, h2 j hj]
        exact (Int32.add_zero _).symm
      · have t' : m.testBit c = true := eq_true_of_ne_false t
        have g1 : 2 ^ c ≤ m := Nat.ge_two_pow_of_testBit t'
        have g2 : 0 < 2 ^ c := Nat.two_pow_pos c
        have go : wX_fillHits_89 post J (wX_fillHits_50 post J (nI m) (nI (rb_pc m - 1)) (q + 1)) (nI m) (nI (rb_pc m - 1)) (nI c) (nI (2 ^ c)) (nI (rb_h on (rb_pc m - 1) c)) (nI N) on w bm cur := by
          unfold wX_fillHits_89
          rw [pk_sub g1]
          refine xb_addHits hN (by omega) (by omega) (rb_h1 on _ _) h0 (fun hm' q1 q2 => nm_r (nI_1 c) (ih (c + 1) hm' (by omega) (fun x hx => ?_) (fun j hj => ?_)))
          · rw [q1 x hx]; exact h1 x hx
          · rw [q2 j hj, es, t', if_pos rfl, h2 j hj]
            congr 1
            by_cases e : rb_h on (rb_pc m - 1) c ≤ j
            · rw [if_pos e, if_pos e, h1 _ (by omega)]
            · rw [if_neg e, if_neg e]
        refine br_c (fun o => ?_) (fun o => ?_)
        · have e : rb_h on (rb_pc m - 1) c = 0 := if_pos o
          rw [e] at go
          exact go
        · have e : rb_h on (rb_pc m - 1) c = 1 := if_neg o
          rw [e] at go
          exact go
  have Out : ∀ (q m : Nat) (cur : Nat → Int32), m + q = 2 ^ N → 0 < m → cur 0 = 1 → (∀ j, 0 < j → j ≤ N → cur j = 0) → (∀ m', 0 < m' → m' < m → ∀ j, j ≤ N → cur (7 * m' + j) = rb_R N (rb_h on) cur m' j N) → (∀ x, 7 * m ≤ x → x < 448 → cur x = 0) →
      wX_fillHits_31 post (q + 1) (nI m) (nI N) on w bm cur := by
    intro q
    induction q with
    | zero =>
      intro m cur hm' hm0 h1 h2 h3 h4
      have : m = 2 ^ N := by omega
      subst this
      unfold wX_fillHits_31
      rw [rb_1shl N (by omega)]
      exact br_t (nI_le (Nat.le_refl _) (by omega)) (hp cur h1 h2 h3)
    | succ q ih =>
      intro m cur hm' hm0 h1 h2 h3 h4
      unfold wX_fillHits_31
      rw [rb_1shl N (by omega)]
      have hpc : 0 < rb_pc m := by
        rcases Nat.eq_zero_or_pos (rb_pc m) with z | z
        · have := rb_pc0 m (by omega) z; omega
        · exact z
      have hpl := rb_pc_lt m
      refine br_f (nI_ge (by omega) (by omega)) (xb_bc (by omega) (nm_r (pk_sub (b := 1) hpc) ⟨_, In _ m cur hm0 (by omega) (fun cur' g1 g2 => ih (m + 1) cur' (by omega) (by omega) ?_ (fun j hj1 hj2 => ?_) (fun m' hm1 hm2 j hj => ?_) (fun x hx1 hx2 => ?_)) N 0 cur (by omega) (fun x _ => rfl) (fun j hj => ?_)⟩))
      · rw [g1 0 (by omega)]; exact h1
      · rw [g1 j (by omega)]; exact h2 j hj1 hj2
      · by_cases e : m' = m
        · subst e
          rw [g2 j hj]
          exact (rb_R_c (by omega) (fun x hx => g1 x (Or.inl hx))).symm
        · rw [g1 _ (by omega), h3 m' hm1 (by omega) j hj]
          exact (rb_R_c (by omega) (fun x hx => g1 x (by omega))).symm
      · rw [g1 x (by omega)]; exact h4 x (by omega) hx2
      · exact h4 _ (by omega) (by omega)
  have Z : ∀ (q i : Nat) (cur : Nat → Int32), i + q = 448 → (∀ x, x < i → cur x = 0) → wX_fillHits_2 post (nI N) (q + 1) (nI i) on w bm cur := by
    intro q
    induction q with
    | zero =>
      intro i cur hi h1
      have : i = 448 := by omega
      subst this
      have hp1 : 1 ≤ 2 ^ N := Nat.two_pow_pos N
      refine br_t (nI_le (a := 448) (b := 448) (Nat.le_refl _) (by decide)) (nm_e ⟨_, Out (2 ^ N - 1) 1 _ (by omega) (by decide) pk_us (fun j hj1 hj2 => ?_) (fun m' hm1 hm2 => by omega) (fun x hx1 hx2 => ?_)⟩)
      · rw [pk_un (by omega)]; exact h1 j (by omega)
      · rw [pk_un (by omega)]; exact h1 x hx2
    | succ q ih =>
      intro i cur hi h1
      refine br_f (nI_ge (a := i) (b := 448) (by omega) (by decide)) ⟨vp_in_nI (by omega) (by decide), nm_r (e' := upd cur i 0) (by rw [nI_clamp (by omega)]) (nm_r (nI_1 i) (ih (i + 1) _ (by omega) (fun x hx => ?_)))⟩
      by_cases e : x = i
      · rw [e, pk_us]
      · rw [pk_un e]; exact h1 x (by omega)
  exact ⟨_, Z 448 0 hm rfl (fun x hx => absurd hx (Nat.not_lt_zero _))⟩
theorem xb_hits {post : Int32 → SX → Prop} {N kk : Nat} {on w bm hm : Nat → Int32} (hN : N ≤ 6) (h0 : 0 < N) (hk : kk ≤ N)
    (h : ∀ hm', post (rb_HB N (rb_h on) kk N 0 0) (nI N, on, w, bm, hm')) : wpX_hits post (nI N, on, w, bm, hm) (nI kk) := by
  unfold wpX_hits
  dsimp only
  have h6 := rb_p6 hN
  have hp := Nat.two_pow_pos N
  refine xb_rc1 hN hk (br_f (by decide) (xb_fill hN h0 (fun cur c1 c2 c3 => ?_)))
  have e := rb_hits (N := N) (kk := kk) (h := rb_h on) (H := fun m j => cur (7 * m + j)) hN hk (rb_h1 on) c1 (fun j hj1 hj2 => by show cur (7 * 0 + j) = 0; rw [Nat.mul_zero, Nat.zero_add]; exact c2 j hj1 hj2) (fun m hm1 hm2 j hj => c3 m hm1 hm2 j hj)
  have e1 : (1 : Int32) <<< (nI N &&& 31) - 1 = nI (2 ^ N - 1) := by
    rw [rb_1shl N (by omega)]
    exact pk_sub (a := 2 ^ N) (b := 1) hp
  refine nm_r e1 ?_
  rw [rb_ix7, nI_clamp (by omega)]
  refine ⟨vp_in_nI (by omega) (by decide), ?_⟩
  have := h cur
  rw [← e] at this
  exact this
theorem xb_hits0 {post : Int32 → SX → Prop} {N : Nat} {v : Int32} {on w bm hm : Nat → Int32} (hN : N ≤ 6) (hk : ¬ ∃ k, k ≤ N ∧ v = nI k)
    (h : post (-1) (nI N, on, w, bm, hm)) : wpX_hits post (nI N, on, w, bm, hm) v := by
  unfold wpX_hits
  dsimp only
  exact xb_rc0 hN hk (br_t rfl h)
/-! the signed sum -/
def rb_SS (on w cur : Nat → Int32) (m : Nat) (q : Nat) : Int32 :=
  rb_sum (fun c => if m.testBit c && rb_B on (6 * (rb_pc m - 1) + c) then w (6 * (rb_pc m - 1) + c) * cur (m - 2 ^ c) * rb_sg (rb_gt m c) else 0) q
theorem xb_sson {post : Int32 → Prop} {N m : Nat} {on w bm hm : Nat → Int32} (hN : N ≤ 6) (hm0 : 0 < m) (hmN : m < 2 ^ N) (h : post (rb_SS on w bm m N)) : wpX_signedSumOn post (nI N, on, w, bm, hm) (nI m) := by
  have h6 := rb_p6 hN
  have hpc := (rb_pcN N (by omega) m (by omega) hmN).1
  have hp0 : 0 < rb_pc m := by
    rcases Nat.eq_zero_or_pos (rb_pc m) with z | z
    · have := rb_pc0 m (by omega) z; omega
    · exact z
  have L : ∀ (q c : Nat), c + q = N → wX_signedSumOn_12 post (nI m) (nI (rb_pc m - 1)) (nI N) on w bm hm (q + 1) (rb_SS on w bm m c) (nI c) := by
    intro q
    induction q with
    | zero =>
      intro c hc
      have : c = N := by omega
      subst this
      exact br_t (nI_le (Nat.le_refl _) (by omega)) h
    | succ q ih =>
      intro c hc
      have es : rb_SS on w bm m (c + 1) = rb_SS on w bm m c + (if m.testBit c && rb_B on (6 * (rb_pc m - 1) + c) then w (6 * (rb_pc m - 1) + c) * bm (m - 2 ^ c) * rb_sg (rb_gt m c) else 0) := rfl
      have ihc := ih (c + 1) (by omega)
      refine br_f (by rw [nI_leI (by omega) (by omega)]; omega) (nm_r (rb_ix _ c) (nm_r (rb_1shl c (by omega)) ?_))
      rw [rb_andb m (by omega) c (by omega), nI_clamp (by omega)]
      refine br_c (fun t => nm_r (nI_1 c) ?_) (fun t => ⟨vp_in_nI (by omega) (by decide), br_c (fun o => nm_r (nI_1 c) ?_) (fun o => ⟨vp_in_nI (by omega) (by decide), ?_⟩)⟩)
      · rw [es, t, Bool.false_and, if_neg (by decide), Int32.add_zero] at ihc
        exact ihc
      · rw [es, rb_Bf o, Bool.and_false, if_neg (by decide), Int32.add_zero] at ihc
        exact ihc
      · have t' : m.testBit c = true := eq_true_of_ne_false t
        have g1 : 2 ^ c ≤ m := Nat.ge_two_pow_of_testBit t'
        have g2 : 0 < 2 ^ c := Nat.two_pow_pos c
        have e4 : nI m >>> ((nI c + 1) &&& 31) = nI (m / 2 ^ (c + 1)) := by rw [nI_1, rb_shr (by omega) (by omega)]
        have hd : m / 2 ^ (c + 1) ≤ m := Nat.div_le_self _ _
        rw [pk_sub g1, nI_clamp (by omega), e4]
        refine ⟨vp_in_nI (by omega) (by decide), nm_e (xb_bc (by omega) ⟨rb_20, ?_⟩)⟩
        have hg : rb_pc (m / 2 ^ (c + 1)) = rb_gt m c := rfl
        have hgl := rb_pc_lt (m / 2 ^ (c + 1))
        have e5 : nI (rb_pc (m / 2 ^ (c + 1))) - nI (rb_pc (m / 2 ^ (c + 1))) / 2 * 2 = nI (rb_pc (m / 2 ^ (c + 1)) % 2) := pk_rem (d := 2) (by omega) (by decide) (by decide)
        rw [e5, hg]
        rw [es, t', rb_Bt o, Bool.true_and, if_pos rfl] at ihc
        rcases Nat.mod_two_eq_zero_or_one (rb_gt m c) with z | z
        · rw [show rb_sg (rb_gt m c) = 1 from if_pos z, Int32.mul_one] at ihc
          rw [z]
          exact br_t rfl (nm_e (nm_r (nI_1 c) ihc))
        · rw [show rb_sg (rb_gt m c) = -1 from if_neg (by omega)] at ihc
          rw [z]
          refine br_f (by decide) (nm_r (e' := rb_SS on w bm m c + w (6 * (rb_pc m - 1) + c) * bm (m - 2 ^ c) * -1) (by grind) (nm_r (nI_1 c) ihc))
  unfold wpX_signedSumOn
  dsimp only
  exact xb_bc (by omega) (nm_r (pk_sub (b := 1) hp0) ⟨_, L N 0 (by omega)⟩)
theorem rb_SS_c {on w cur cur' : Nat → Int32} {m q : Nat} (hc : ∀ x, x < m → cur' x = cur x) : rb_SS on w cur' m q = rb_SS on w cur m q := by
  unfold rb_SS
  refine rb_sum_c (fun c _ => ?_)
  cases hb : m.testBit c
  · rfl
  · have h1 : 2 ^ c ≤ m := Nat.ge_two_pow_of_testBit hb
    have h2 : 0 < 2 ^ c := Nat.two_pow_pos c
    rw [hc (m - 2 ^ c) (by omega)]
theorem xb_signedSum {post : Int32 → SX → Prop} {N : Nat} {on w bm hm : Nat → Int32} (hN : N ≤ 6) (h0 : 0 < N)
    (h : ∀ bm', post (rb_CB N (rb_B on) (rb_wg N w) N N 0) (nI N, on, w, bm', hm)) : wpX_signedSum post (nI N, on, w, bm, hm) := by
  have h6 := rb_p6 hN
  have hp := Nat.two_pow_pos N
  have L : ∀ (q m : Nat) (cur : Nat → Int32), m + q = 2 ^ N → 0 < m → cur 0 = 1 → (∀ m', 0 < m' → m' < m → cur m' = rb_SS on w cur m' N) → wX_signedSum_16 post (nI (2 ^ N - 1)) (nI N) (q + 1) (nI m) on w cur hm := by
    intro q
    induction q with
    | zero =>
      intro m cur hm' hm0 h1 h2
      have : m = 2 ^ N := by omega
      subst this
      refine br_t (nI_lt (by omega) (by omega)) ⟨vp_in_nI (by omega) (by decide), ?_⟩
      rw [nI_clamp (by omega)]
      have e := rb_signed (B := rb_B on) (W := w) (S := cur) hN h1 (fun m hm1 hm2 => h2 m hm1 hm2)
      rw [e]
      exact h cur
    | succ q ih =>
      intro m cur hm' hm0 h1 h2
      refine br_f (by rw [nI_ltI (by omega) (by omega)]; omega) (xb_sson hN hm0 (by omega) ⟨vp_in_nI (by omega) (by decide), nm_r (e' := upd cur m (rb_SS on w cur m N)) (by rw [nI_clamp (by omega)]) (nm_r (nI_1 m) (ih (m + 1) _ (by omega) (by omega) ?_ (fun m' hm1 hm2 => ?_)))⟩)
      · rw [pk_un (by omega)]; exact h1
      · by_cases e : m' = m
        · subst e
          rw [pk_us]
          exact (rb_SS_c (fun x hx => pk_un (by omega))).symm
        · rw [pk_un e, h2 m' hm1 (by omega)]
          exact (rb_SS_c (fun x hx => pk_un (by omega))).symm
  have e1 : (1 : Int32) <<< (nI N &&& 31) - 1 = nI (2 ^ N - 1) := by
    rw [rb_1shl N (by omega)]
    exact pk_sub (a := 2 ^ N) (b := 1) hp
  unfold wpX_signedSum
  dsimp only
  exact xb_start (u := 0) (by decide) (fun bm' hb => nm_r e1 ⟨_, L (2 ^ N - 1) 1 bm' (by omega) (by decide) (by rw [hb 0 (by decide), if_pos rfl]) (fun m' h1 h2 => by omega)⟩)
end
section
/-! S: the class: lines, column -/
theorem xb_outside {post : Int32 → Prop} {N R : Nat} {on w bm hm : Nat → Int32} (hN : N ≤ 6) (hR : R < 2 ^ N) (h : ∀ o, rb_out N (rb_B on) R o → post (nI o)) : wpX_columnsOutside post (nI N, on, w, bm, hm) (nI R) := by
  have h6 := rb_p6 hN
  have hB : ∀ q, rb_B on q = true ↔ ¬ on q = 0 := fun q => by unfold rb_B; rw [decide_eq_true_eq]
  have In : ∀ (J : Int32 → Int32 → Prop) (r : Nat), r < N → ∀ (o0 : Nat),
      (∀ o, o < 2 ^ N → (∀ c, c < N → (o.testBit c = true ↔ (o0.testBit c = true ∨ (R.testBit r = false ∧ rb_B on (6 * r + c) = true)))) → J (nI o) (nI (r + 1))) →
      ∀ (j q o : Nat), q + j = N → o < 2 ^ N → (∀ c, c < N → (o.testBit c = true ↔ (o0.testBit c = true ∨ (c < q ∧ R.testBit r = false ∧ rb_B on (6 * r + c) = true)))) → wX_columnsOutside_15 post J (nI R) (nI r) (nI N) on w bm hm (j + 1) (nI o) (nI q) := by
    intro J r hr o0 hJ j
    induction j with
    | zero =>
      intro q o hq ho hI
      have : q = N := by omega
      subst this
      refine br_t (nI_le (Nat.le_refl _) (by omega)) (nm_r (nI_1 r) (hJ o ho (fun c hc => ?_)))
      rw [hI c hc]
      exact ⟨fun z => z.imp id (fun y => y.2), fun z => z.imp id (fun y => ⟨hc, y⟩)⟩
    | succ j ih =>
      intro q o hq ho hI
      refine br_f (by rw [nI_leI (by omega) (by omega)]; omega) ?_
      rw [rb_1shl r (by omega), rb_andb R (by omega) r (by omega), rb_ix, nI_clamp (by omega)]
      have skip : ¬ (R.testBit r = false ∧ rb_B on (6 * r + q) = true) → wX_columnsOutside_15 post J (nI R) (nI r) (nI N) on w bm hm (j + 1) (nI o) (nI (q + 1)) := by
        intro z
        refine ih (q + 1) o (by omega) ho (fun c hc => ?_)
        rw [hI c hc]
        refine ⟨fun y => y.imp id (fun y => ⟨by omega, y.2⟩), fun y => y.imp id (fun y => ⟨?_, y.2⟩)⟩
        have y1 := y.1
        by_cases e : c = q
        · rw [e] at y; exact absurd y.2 z
        · omega
      refine br_c (fun t => ⟨vp_in_nI (by omega) (by decide), br_c (fun e => nm_r (nI_1 q) (skip (fun z => absurd e ((hB _).mp z.2)))) (fun e => ?_)⟩) (fun t => nm_r (nI_1 q) (skip (fun z => t z.1)))
      rw [rb_1shl q (by omega), rb_or]
      refine nm_e (nm_r (nI_1 q) (ih (q + 1) (o ||| 2 ^ q) (by omega) (rb_or_lt hN ho (by omega)) (fun c hc => ?_)))
      rw [Nat.testBit_or, Nat.testBit_two_pow, Bool.or_eq_true, hI c hc, decide_eq_true_eq]
      constructor
      · rintro ((y | y) | y)
        · exact Or.inl y
        · exact Or.inr ⟨by omega, y.2⟩
        · subst y
          exact Or.inr ⟨by omega, t, (hB _).mpr e⟩
      · rintro (y | y)
        · exact Or.inl (Or.inl y)
        · by_cases z : q = c
          · exact Or.inr z
          · exact Or.inl (Or.inr ⟨by omega, y.2⟩)
  have Out : ∀ (j r o : Nat), r + j = N → o < 2 ^ N → (∀ c, c < N → (o.testBit c = true ↔ ∃ r', r' < r ∧ R.testBit r' = false ∧ rb_B on (6 * r' + c) = true)) → wX_columnsOutside_4 post (nI R) (nI N) on w bm hm (j + 1) (nI o) (nI r) := by
    intro j
    induction j with
    | zero =>
      intro r o hr ho hI
      have : r = N := by omega
      subst this
      exact br_t (nI_le (Nat.le_refl _) (by omega)) (h o ⟨ho, hI⟩)
    | succ j ih =>
      intro r o hr ho hI
      refine br_f (by rw [nI_leI (by omega) (by omega)]; omega) ⟨_, In _ r (by omega) o (fun o' ho' hI' => ih (r + 1) o' (by omega) ho' (fun c hc => ?_)) N 0 o (by omega) ho (fun c hc => ?_)⟩
      · rw [hI' c hc, hI c hc]
        constructor
        · rintro (⟨r', y1, y2⟩ | y)
          · exact ⟨r', by omega, y2⟩
          · exact ⟨r, by omega, y⟩
        · rintro ⟨r', y1, y2⟩
          by_cases z : r' = r
          · subst z; exact Or.inr y2
          · exact Or.inl ⟨r', by omega, y2⟩
      · exact ⟨fun y => Or.inl y, fun y => y.elim id (fun z => absurd z.1 (Nat.not_lt_zero c))⟩
  refine ⟨_, Out N 0 0 (by omega) (Nat.two_pow_pos N) (fun c hc => ?_)⟩
  rw [Nat.zero_testBit]
  exact ⟨fun y => absurd y (by decide), fun ⟨r', y, _⟩ => absurd y (Nat.not_lt_zero r')⟩
theorem xb_lines {post : Int32 → Prop} {N : Nat} {on w bm hm : Nat → Int32} (hN : N ≤ 6)
    (h : ∀ l, l ≤ N → (∀ R, R < 2 ^ N → ∃ o, rb_out N (rb_B on) R o ∧ l ≤ rb_pc R + rb_pc o) → (l = N ∨ ∃ R o, R < 2 ^ N ∧ rb_out N (rb_B on) R o ∧ rb_pc R + rb_pc o = l) → post (nI l)) :
    wpX_lines post (nI N, on, w, bm, hm) := by
  have h6 := rb_p6 hN
  have L : ∀ (j R l : Nat), R + j = 2 ^ N → l ≤ N → (∀ R', R' < R → ∃ o, rb_out N (rb_B on) R' o ∧ l ≤ rb_pc R' + rb_pc o) → (l = N ∨ ∃ R o, R < 2 ^ N ∧ rb_out N (rb_B on) R o ∧ rb_pc R + rb_pc o = l) → wX_lines_7 post (nI N) on w bm hm (j + 1) (nI l) (nI R) := by
    intro j
    induction j with
    | zero =>
      intro R l hR hl h1 h2
      have : R = 2 ^ N := by omega
      subst this
      unfold wX_lines_7
      rw [rb_1shl N (by omega)]
      exact br_t (nI_le (Nat.le_refl _) (by omega)) (h l hl h1 h2)
    | succ j ih =>
      intro R l hR hl h1 h2
      unfold wX_lines_7
      rw [rb_1shl N (by omega)]
      refine br_f (nI_ge (by omega) (by omega)) (xb_outside hN (by omega) (fun o ho => xb_bc (by omega) (xb_bc (by have := ho.1; omega) (nm_r (nI_add _ _) ?_))))
      have p1 := rb_pc_lt R
      have p2 := rb_pc_lt o
      rw [nI_leI (by omega) (by omega)]
      refine br_c (fun q => nm_r (nI_1 R) (ih (R + 1) l (by omega) hl (fun R' hR' => ?_) h2)) (fun q => nm_r (nI_1 R) (ih (R + 1) _ (by omega) (by omega) (fun R' hR' => ?_) (Or.inr ⟨R, o, by omega, ho, rfl⟩)))
      · by_cases e : R' = R
        · subst e; exact ⟨o, ho, q⟩
        · exact h1 R' (by omega)
      · by_cases e : R' = R
        · subst e; exact ⟨o, ho, Nat.le_refl _⟩
        · obtain ⟨o', g1, g2⟩ := h1 R' (by omega)
          exact ⟨o', g1, by omega⟩
  exact ⟨_, L (2 ^ N) 0 N (by omega) (Nat.le_refl N) (fun R' z => absurd z (Nat.not_lt_zero _)) (Or.inl rfl)⟩
/-! column -/
theorem xb_may {post : Int32 → Prop} {N r c t : Nat} {on w bm hm : Nat → Int32} (hN : N ≤ 6) (hr : r < N) (hc : c ≤ N) (ht : t < 2 ^ N)
    (h1 : rb_al N (rb_B on) r t c = true → post 1) (h0 : c < N → rb_al N (rb_B on) r t c = false → post 0) : wpX_mayChoose post (nI N, on, w, bm, hm) (nI r) (nI c) (nI t) := by
  have h6 := rb_p6 hN
  unfold wpX_mayChoose
  dsimp only
  rw [nI_eq (by omega) (by omega)]
  by_cases e : c = N
  · exact br_t e (h1 (if_neg (by omega)))
  · have hcN : c < N := by omega
    have ea : rb_al N (rb_B on) r t c = (!t.testBit c && rb_B on (6 * r + c)) := if_pos hcN
    rw [rb_1shl c (by omega), rb_andb t (by omega) c (by omega), rb_ix, nI_clamp (by omega)]
    refine br_f e (br_c (fun q => ⟨vp_in_nI (by omega) (by decide), br_c (fun o => h0 hcN ?_) (fun o => h1 ?_)⟩) (fun q => h0 hcN ?_))
    · rw [ea, rb_Bf o, Bool.and_false]
    · rw [ea, q, rb_Bt o]; rfl
    · rw [ea, eq_true_of_ne_false q]; rfl
theorem xb_cip {post : Int32 → SX → Prop} {N k i r0 : Nat} {on w bm hm : Nat → Int32} {p : List Nat} (hN : N ≤ 6) (hk : k ≤ N) (hi : i < 2 ^ 31) (hr : r0 < N) (hp : (rb_PL N k (rb_B on))[i]? = some p)
    (h : ∀ bm', post (nI (p.getD r0 0)) (nI N, on, w, bm', hm)) : wpX_columnInPlacement post (nI N, on, w, bm, hm) (nI k) (nI i) (nI r0) := by
  have h6 := rb_p6 hN
  have hpl : p.length = N := (rb_PLm (List.mem_of_getElem? hp)).1
  have In : ∀ (J : Int32 → Int32 → Int32 → Int32 → Int32 → (Nat → Int32) → (Nat → Int32) → (Nat → Int32) → (Nat → Int32) → Prop) (r t d : Nat) (s : List Nat), r + d + 1 = N → t < 2 ^ N → rb_pc t ≤ k → k ≤ rb_pc t + (d + 1) →
      (∀ c i' s' cur, c ≤ N → i' < 2 ^ 31 → rb_nx N t c < 2 ^ N → rb_pc (rb_nx N t c) ≤ k → k ≤ rb_pc (rb_nx N t c) + d → s = c :: s' → (rb_comp N k (rb_B on) d (rb_nx N t c) (rb_pc (rb_nx N t c)))[i']? = some s' → J (nI i') (nI (rb_nx N t c)) (nI c) (nI (r + 1)) (nI N) on w cur hm) →
      ∀ (j c i' : Nat) (x6 x8 : Int32) (cur : Nat → Int32), c + j = N + 1 → i' < 2 ^ 31 → (rb_cf N (rb_pi N k (rb_B on) d t (rb_pc t)) j)[i']? = some s → wX_columnInPlacement_31 post J (nI k) (nI r0) (nI t) (nI r) (j + 1) (nI i') x6 x8 0 (nI c) (nI N) on w cur hm := by
    intro J r t d s hd ht hk1 hk2 hJ j
    induction j with
    | zero =>
      intro c i' x6 x8 cur hc hi' hs
      exact absurd hs (by show ¬ ([] : List (List Nat))[i']? = some s; simp)
    | succ j ih =>
      intro c i' x6 x8 cur hc hi' hs
      have hcN : N - j = c := by omega
      have erow : N - (d + 1) = r := by omega
      refine br_f (by rw [nI_ltI (by omega) (by omega)]; omega) (br_t rfl (xb_may hN (by omega) (by omega) ht (fun ha => br_f (by decide) ?_) (fun hlt ha => br_t rfl (nm_r (nI_1 c) (ih (c + 1) i' x6 x8 cur (by omega) hi' ?_)))))
      · obtain ⟨n1, n2⟩ := rb_nx_f hN ht ha
        have go : wX_columnInPlacement_79 post J (wX_columnInPlacement_31 post J (nI k) (nI r0) (nI t) (nI r) (j + 1)) (nI k) (nI r0) (nI i') (nI t) x6 (nI r) 0 (nI c) (nI (rb_nx N t c)) (nI N) on w cur hm := by
          unfold wX_columnInPlacement_79
          rw [nI_1 r]
          refine xb_cc hN (by omega) n1 hk (fun bm' => ?_)
          have el : rb_CB N (rb_B on) rb_w1 k (N - (r + 1)) (rb_nx N t c) = nI (rb_pi N k (rb_B on) d t (rb_pc t) c).length := by
            rw [show N - (r + 1) = d by omega]
            exact (rb_pil hN (by omega) ht rfl hk1 hk2 (by rw [erow]; exact ha)).symm
          rw [el]
          have hlt := rb_pi_lt (k := k) (t := t) (p := rb_pc t) (c := c) (B := rb_B on) (d := d) hN (by omega)
          rw [nI_leI hlt hi']
          refine br_c (fun q => ?_) (fun q => ?_)
          · have hs' := rb_ix_on hs (by rw [hcN]; exact q)
            rw [hcN] at hs'
            exact nm_r (pk_sub q) (nm_r (nI_1 c) (ih (c + 1) _ x6 _ bm' (by omega) (by omega) hs'))
          · obtain ⟨hok, s', es, hs'⟩ := rb_ix_in hs (by rw [hcN]; omega)
            rw [hcN] at hok es hs'
            rw [← n2] at hs'
            refine nm_r (nI_1 c) ?_
            have hb : rb_pc (rb_nx N t c) ≤ k ∧ k ≤ rb_pc (rb_nx N t c) + d := by
              rw [n2]
              unfold rb_ok at hok
              unfold rb_np
              by_cases z : c < N
              · rw [if_pos z] at hok ⊢
                have hlt2 : rb_pc t < k := by
                  have := (Bool.and_eq_true _ _ ▸ hok).1
                  exact of_decide_eq_true this
                omega
              · rw [if_neg z] at hok ⊢
                have := of_decide_eq_true hok
                omega
            have fin := hJ c i' s' bm' (by omega) hi' n1 hb.1 hb.2 es hs'
            exact br_c (fun _ => nm_r (nI_1 r) fin) (fun _ => br_f (by decide) (nm_r (nI_1 r) fin))
        by_cases z : c < N
        · refine br_f (by rw [nI_leI (by omega) (by omega)]; omega) ?_
          have hbt : t.testBit c = false := by
            unfold rb_al at ha
            rw [if_pos z] at ha
            cases e : t.testBit c
            · rfl
            · rw [e] at ha; simp at ha
          rw [rb_1shl c (by omega), rb_or, rb_orb t (by omega) c (by omega) hbt]
          rw [show rb_nx N t c = t + 2 ^ c from if_pos z] at go
          exact go
        · refine br_t ((nI_leI (by omega) (by omega)).mpr (by omega)) ?_
          rw [show rb_nx N t c = t from if_neg z] at go
          exact go
      · rw [rb_cf_s, hcN, rb_pin hlt (by rw [erow]; exact ha)] at hs
        exact hs
  have Out : ∀ (j r t i' : Nat) (x6 : Int32) (cur : Nat → Int32), r + j = r0 + 1 → i' < 2 ^ 31 → t < 2 ^ N → rb_pc t ≤ k → k ≤ rb_pc t + (N - r) → (rb_comp N k (rb_B on) (N - r) t (rb_pc t))[i']? = some (p.drop r) → (r = r0 + 1 → x6 = nI (p.getD r0 0)) →
      wX_columnInPlacement_15 post (nI k) (nI r0) (j + 1) (nI i') (nI t) x6 (nI r) (nI N) on w cur hm := by
    intro j
    induction j with
    | zero =>
      intro r t i' x6 cur hr' hi' ht hk1 hk2 hs hx
      rw [hx (by omega)]
      exact br_t (nI_lt (by omega) (by omega)) (h cur)
    | succ j ih =>
      intro r t i' x6 cur hr' hi' ht hk1 hk2 hs hx
      obtain ⟨d, hd⟩ : ∃ d, N - r = d + 1 := ⟨N - r - 1, by omega⟩
      rw [hd] at hk2 hs
      rw [rb_comp_s] at hs
      refine br_f (by rw [nI_ltI (by omega) (by omega)]; omega) ⟨_, In _ r t d (p.drop r) (by omega) ht hk1 hk2 (fun c i'' s' cur' hc hi'' n1 b1 b2 es hs' => ?_) (N + 1) 0 i' x6 (nI t) cur (by omega) hi' hs⟩
      rw [rb_drop (by omega)] at es
      obtain ⟨es1, es2⟩ := List.cons.inj es
      rw [← es2] at hs'
      refine ih (r + 1) (rb_nx N t c) i'' (nI c) cur' (by omega) hi'' n1 b1 (by rw [show N - (r + 1) = d by omega]; exact b2) (by rw [show N - (r + 1) = d by omega]; exact hs') (fun e => ?_)
      rw [← es1, show r = r0 by omega]
  exact ⟨_, Out (r0 + 1) 0 0 i (nI N) bm (by omega) hi (Nat.two_pow_pos N) (Nat.zero_le k) (by have : rb_pc 0 = 0 := rfl; omega) hp (fun e => by omega)⟩
theorem xb_column {post : Int32 → SX → Prop} {N k i r0 : Nat} {on w bm hm : Nat → Int32} (hN : N ≤ 6) (hk : k ≤ N) (hr : r0 < N) (hi : i < 2 ^ 31)
    (h1 : ∀ p, (rb_PL N k (rb_B on))[i]? = some p → ∀ bm', post (nI (p.getD r0 0)) (nI N, on, w, bm', hm)) (h2 : (rb_PL N k (rb_B on))[i]? = none → ∀ bm', post (-4) (nI N, on, w, bm', hm)) :
    wpX_column post (nI N, on, w, bm, hm) (nI k) (nI i) (nI r0) := by
  unfold wpX_column
  dsimp only
  refine xb_rc1 hN hk (br_f (by decide) (xb_line1 hN hr (br_f (by decide) (br_f (nI_pos hi) (xb_cc (r0 := 0) (u := 0) hN (Nat.zero_le N) (Nat.two_pow_pos N) hk (fun bm' => ?_))))))
  have e : rb_CB N (rb_B on) rb_w1 k (N - 0) 0 = nI (rb_PL N k (rb_B on)).length := rb_PLn hN hk
  rw [e, nI_ltI hi (rb_PLlt hN)]
  refine br_c (fun q => ?_) (fun q => h2 (List.getElem?_eq_none (by omega)) bm')
  have := List.getElem?_eq_getElem q
  exact xb_cip hN hk hi hr this (h1 _ this)
theorem xb_columnN {post : Int32 → SX → Prop} {N k r0 : Nat} {v : Int32} {on w bm hm : Nat → Int32} (hN : N ≤ 6) (hk : k ≤ N) (hr : r0 < N) (hv : v < 0)
    (h : post (-4) (nI N, on, w, bm, hm)) : wpX_column post (nI N, on, w, bm, hm) (nI k) v (nI r0) := by
  unfold wpX_column
  dsimp only
  exact xb_rc1 hN hk (br_f (by decide) (xb_line1 hN hr (br_f (by decide) (br_t hv h))))
theorem xb_column0 {post : Int32 → SX → Prop} {N : Nat} {v v2 v3 : Int32} {on w bm hm : Nat → Int32} (hN : N ≤ 6) (hk : ¬ ((∃ k, k ≤ N ∧ v = nI k) ∧ ∃ k, k < N ∧ v3 = nI k))
    (h : post (-1) (nI N, on, w, bm, hm)) : wpX_column post (nI N, on, w, bm, hm) v v2 v3 := by
  unfold wpX_column
  dsimp only
  by_cases q : ∃ k, k ≤ N ∧ v = nI k
  · obtain ⟨k, hk1, rfl⟩ := q
    exact xb_rc1 hN hk1 (br_f (by decide) (xb_line0 hN (fun t => hk ⟨⟨k, hk1, rfl⟩, t⟩) (br_t rfl h)))
  · exact xb_rc0 hN q (br_t rfl h)
end
section
/-! T: what changes the board -/
def rb_sw (f : Nat → Int32) (p q : Nat) : Nat → Int32 := upd (upd f p (f q)) q (f p)
def rb_swn (f : Nat → Int32) (p q : Nat) : Nat → Int32 := upd (upd f p (vp_nar .boolean (f q))) q (vp_nar .boolean (f p))
theorem rb_vb0 : vp_nar .boolean 0 = 0 := by decide
theorem rb_vb1 : vp_nar .boolean 1 = 1 := by decide
theorem rb_vb {x : Int32} (h : x = 0 ∨ x = 1) : vp_nar .boolean x = x := by
  rcases h with rfl | rfl
  · exact rb_vb0
  · exact rb_vb1
theorem rb_swn_e {f : Nat → Int32} (h : ∀ x, f x = 0 ∨ f x = 1) (p q : Nat) : rb_swn f p q = rb_sw f p q := by
  unfold rb_swn rb_sw
  rw [rb_vb (h p), rb_vb (h q)]
theorem rb_sw_p {f : Nat → Int32} {p q : Nat} : rb_sw f p q p = f q := by
  unfold rb_sw
  by_cases e : p = q
  · subst e; rw [pk_us]
  · rw [pk_un e, pk_us]
theorem rb_sw_q {f : Nat → Int32} {p q : Nat} : rb_sw f p q q = f p := pk_us
theorem rb_sw_n {f : Nat → Int32} {p q x : Nat} (h1 : x ≠ p) (h2 : x ≠ q) : rb_sw f p q x = f x := by
  unfold rb_sw
  rw [pk_un h2, pk_un h1]
theorem rb_sw_P {P : Int32 → Prop} {f : Nat → Int32} {p q : Nat} (h : ∀ x, P (f x)) : ∀ x, P (rb_sw f p q x) := by
  intro x
  by_cases e1 : x = p
  · rw [e1, rb_sw_p]; exact h q
  · by_cases e2 : x = q
    · rw [e2, rb_sw_q]; exact h p
    · rw [rb_sw_n e1 e2]; exact h x
theorem xb_swap {post : SX → Prop} {N p q : Nat} {on w bm hm : Nat → Int32} (hp : p < 36) (hq : q < 36) (h : post (nI N, rb_swn on p q, rb_sw w p q, bm, hm)) : wpX_swapCells post (nI N, on, w, bm, hm) (nI p) (nI q) := by
  unfold wpX_swapCells
  dsimp only
  have ep := nI_clamp (n := p) (by omega)
  have eq := nI_clamp (n := q) (by omega)
  rw [ep, eq]
  have ip := vp_in_nI (N := 36) hp (by decide)
  have iq := vp_in_nI (N := 36) hq (by decide)
  exact ⟨ip, nm_e ⟨iq, ip, nm_e ⟨iq, nm_e ⟨ip, nm_e ⟨iq, ip, nm_e ⟨iq, nm_e h⟩⟩⟩⟩⟩⟩
theorem yb_swap {post : SY → Prop} {N p q : Nat} {x y z any : Int32} {on w a : Nat → Int32} (hp : p < 36) (hq : q < 36) (h : post (nI N, x, y, z, any, rb_swn on p q, rb_sw w p q, a)) : wpY_swap post (nI N, x, y, z, any, on, w, a) (nI p) (nI q) := by
  unfold wpY_swap
  dsimp only
  have ep := nI_clamp (n := p) (by omega)
  have eq := nI_clamp (n := q) (by omega)
  rw [ep, eq]
  have ip := vp_in_nI (N := 36) hp (by decide)
  have iq := vp_in_nI (N := 36) hq (by decide)
  exact ⟨ip, nm_e ⟨iq, ip, nm_e ⟨iq, nm_e ⟨ip, nm_e ⟨iq, ip, nm_e ⟨iq, nm_e h⟩⟩⟩⟩⟩⟩
/-! exchange -/
def rb_exn (i j : Nat) (f : Nat → Int32) : Nat → Nat → Int32
  | 0 => f
  | c + 1 => rb_swn (rb_exn i j f c) (6 * i + c) (6 * j + c)
def rb_exw (i j : Nat) (f : Nat → Int32) : Nat → Nat → Int32
  | 0 => f
  | c + 1 => rb_sw (rb_exw i j f c) (6 * i + c) (6 * j + c)
theorem xb_exchange {post : Int32 → SX → Prop} {N i j : Nat} {on w bm hm : Nat → Int32} (hN : N ≤ 6) (hi : i < N) (hj : j < N) (h : post 0 (nI N, rb_exn i j on N, rb_exw i j w N, bm, hm)) : wpX_exchange post (nI N, on, w, bm, hm) (nI i) (nI j) := by
  have L : ∀ (q c : Nat), c + q = N → wX_exchange_20 post (nI i) (nI j) (q + 1) (nI c) (nI N) (rb_exn i j on c) (rb_exw i j w c) bm hm := by
    intro q
    induction q with
    | zero =>
      intro c hc
      have : c = N := by omega
      subst this
      exact br_t (nI_le (Nat.le_refl _) (by omega)) h
    | succ q ih =>
      intro c hc
      refine br_f (by rw [nI_leI (by omega) (by omega)]; omega) ?_
      rw [rb_ix, rb_ix]
      exact xb_swap (by omega) (by omega) (nm_r (nI_1 c) (ih (c + 1) (by omega)))
  unfold wpX_exchange
  dsimp only
  exact xb_line1 hN hi (br_f (by decide) (xb_line1 hN hj (br_f (by decide) ⟨_, L N 0 (by omega)⟩)))
theorem xb_exchange0 {post : Int32 → SX → Prop} {N : Nat} {v v2 : Int32} {on w bm hm : Nat → Int32} (hN : N ≤ 6) (hk : ¬ ((∃ k, k < N ∧ v = nI k) ∧ ∃ k, k < N ∧ v2 = nI k)) (h : post (-1) (nI N, on, w, bm, hm)) : wpX_exchange post (nI N, on, w, bm, hm) v v2 := by
  unfold wpX_exchange
  dsimp only
  by_cases q : ∃ k, k < N ∧ v = nI k
  · obtain ⟨k, hk1, rfl⟩ := q
    exact xb_line1 hN hk1 (br_f (by decide) (xb_line0 hN (fun t => hk ⟨⟨k, hk1, rfl⟩, t⟩) (br_t rfl h)))
  · exact xb_line0 hN q (br_t rfl h)
theorem yb_exchange {post : Int32 → SY → Prop} {N i j : Nat} {x y z any : Int32} {on w a : Nat → Int32} (hN : N ≤ 6) (hi : i < N) (hj : j < N) (h : post 0 (nI N, x, y, z, any, rb_exn i j on N, rb_exw i j w N, a)) : wpY_exchange post (nI N, x, y, z, any, on, w, a) (nI i) (nI j) := by
  have L : ∀ (q c : Nat), c + q = N → wY_exchange_20 post (nI i) (nI j) (q + 1) (nI c) (nI N) x y z any (rb_exn i j on c) (rb_exw i j w c) a := by
    intro q
    induction q with
    | zero =>
      intro c hc
      have : c = N := by omega
      subst this
      exact br_t (nI_le (Nat.le_refl _) (by omega)) h
    | succ q ih =>
      intro c hc
      refine br_f (by rw [nI_leI (by omega) (by omega)]; omega) ?_
      rw [rb_ix, rb_ix]
      exact yb_swap (by omega) (by omega) (nm_r (nI_1 c) (ih (c + 1) (by omega)))
  unfold wpY_exchange
  dsimp only
  exact yb_noRow0 hN hi (br_t rfl (yb_noRow0 hN hj (br_t rfl ⟨_, L N 0 (by omega)⟩)))
theorem yb_exchange1 {post : Int32 → SY → Prop} {N : Nat} {v v2 x y z any : Int32} {on w a : Nat → Int32} (hN : N ≤ 6) (hk : ¬ ((∃ k, k < N ∧ v = nI k) ∧ ∃ k, k < N ∧ v2 = nI k)) (h : post (-1) (nI N, x, y, z, any, on, w, a)) : wpY_exchange post (nI N, x, y, z, any, on, w, a) v v2 := by
  unfold wpY_exchange
  dsimp only
  by_cases q : ∃ k, k < N ∧ v = nI k
  · obtain ⟨k, hk1, rfl⟩ := q
    exact yb_noRow0 hN hk1 (br_t rfl (yb_noRow1 hN (fun t => hk ⟨⟨k, hk1, rfl⟩, t⟩) (br_f (by decide) h)))
  · exact yb_noRow1 hN q (br_f (by decide) h)
/-- the board holds zeros and ones, and nothing outside -/
def rb_OK (N : Nat) (on : Nat → Int32) : Prop := (∀ x, on x = 0 ∨ on x = 1) ∧ ∀ r c, r < 6 → c < 6 → (N ≤ r ∨ N ≤ c) → on (6 * r + c) = 0
theorem rb_OK_ex {N i j : Nat} {on : Nat → Int32} (hN : N ≤ 6) (hi : i < N) (hj : j < N) (h : rb_OK N on) : ∀ c, c ≤ N → rb_OK N (rb_exn i j on c) := by
  intro c
  induction c with
  | zero => intro _; exact h
  | succ c ih =>
    intro hc
    obtain ⟨h1, h2⟩ := ih (by omega)
    show rb_OK N (rb_swn (rb_exn i j on c) (6 * i + c) (6 * j + c))
    rw [rb_swn_e h1]
    refine ⟨rb_sw_P (P := fun x => x = 0 ∨ x = 1) h1, fun r q hr hq ho => ?_⟩
    rw [rb_sw_n (by omega) (by omega)]
    exact h2 r q hr hq ho
/-! turn -/
def rb_TI (f : Nat → Int32) (D : Nat → Nat → Prop) (cur : Nat → Int32) : Prop :=
  (∀ i j, i < 6 → j < 6 → (D i j → cur (6 * i + j) = f (6 * j + i)) ∧ (¬ D i j → cur (6 * i + j) = f (6 * i + j))) ∧ ∀ x, 36 ≤ x → cur x = f x
theorem rb_TI_s {f cur : Nat → Int32} {D D' : Nat → Nat → Prop} {r c : Nat} (h : rb_TI f D cur) (hr : r < 6) (hc : c < 6) (n1 : ¬ D r c) (n2 : ¬ D c r)
    (hD : ∀ i j, i < 6 → j < 6 → (D' i j ↔ D i j ∨ (i = r ∧ j = c) ∨ (i = c ∧ j = r))) : rb_TI f D' (rb_sw cur (6 * r + c) (6 * c + r)) := by
  obtain ⟨h1, h2⟩ := h
  refine ⟨fun i j hi hj => ?_, fun x hx => ?_⟩
  · rw [hD i j hi hj]
    by_cases e1 : i = r ∧ j = c
    · obtain ⟨rfl, rfl⟩ := e1
      refine ⟨fun _ => ?_, fun z => absurd (Or.inr (Or.inl ⟨rfl, rfl⟩)) z⟩
      rw [rb_sw_p]
      exact (h1 j i hj hi).2 n2
    · by_cases e2 : i = c ∧ j = r
      · obtain ⟨rfl, rfl⟩ := e2
        refine ⟨fun _ => ?_, fun z => absurd (Or.inr (Or.inr ⟨rfl, rfl⟩)) z⟩
        rw [rb_sw_q]
        exact (h1 j i hj hi).2 n1
      · rw [rb_sw_n (by omega) (by omega)]
        exact ⟨fun z => (h1 i j hi hj).1 (z.elim id (fun y => y.elim (fun y => absurd y e1) (fun y => absurd y e2))), fun z => (h1 i j hi hj).2 (fun y => z (Or.inl y))⟩
  · rw [rb_sw_n (by omega) (by omega)]
    exact h2 x hx
theorem rb_TI_c {f cur : Nat → Int32} {D D' : Nat → Nat → Prop} (h : rb_TI f D cur) (hD : ∀ i j, i < 6 → j < 6 → (D' i j ↔ D i j)) : rb_TI f D' cur := by
  obtain ⟨h1, h2⟩ := h
  refine ⟨fun i j hi hj => ?_, h2⟩
  rw [hD i j hi hj]
  exact h1 i j hi hj
theorem rb_TI_u {f cur cur' : Nat → Int32} {D : Nat → Nat → Prop} (h : rb_TI f D cur) (h' : rb_TI f D cur') : cur = cur' := by
  funext x
  by_cases hx : x < 36
  · obtain ⟨i, j, hi, hj, rfl⟩ : ∃ i j, i < 6 ∧ j < 6 ∧ x = 6 * i + j := ⟨x / 6, x % 6, by omega, by omega, by omega⟩
    by_cases d : D i j
    · rw [(h.1 i j hi hj).1 d, (h'.1 i j hi hj).1 d]
    · rw [(h.1 i j hi hj).2 d, (h'.1 i j hi hj).2 d]
  · rw [h.2 x (by omega), h'.2 x (by omega)]
theorem rb_TI_P {P : Int32 → Prop} {f cur : Nat → Int32} {D : Nat → Nat → Prop} (h : rb_TI f D cur) (hP : ∀ x, P (f x)) : ∀ x, P (cur x) := by
  intro x
  by_cases hx : x < 36
  · obtain ⟨i, j, hi, hj, rfl⟩ : ∃ i j, i < 6 ∧ j < 6 ∧ x = 6 * i + j := ⟨x / 6, x % 6, by omega, by omega, by omega⟩
    by_cases d : D i j
    · rw [(h.1 i j hi hj).1 d]; exact hP _
    · rw [(h.1 i j hi hj).2 d]; exact hP _
  · rw [h.2 x (by omega)]; exact hP x
def rb_DF (N : Nat) : Nat → Nat → Prop := fun i j => i < N ∧ j < N ∧ i ≠ j
def rb_DX (N r c : Nat) : Nat → Nat → Prop := fun i j => i < N ∧ j < N ∧ ((i < j ∧ (i < r ∨ (i = r ∧ j < c))) ∨ (j < i ∧ (j < r ∨ (j = r ∧ i < c))))
def rb_DY (N r c : Nat) : Nat → Nat → Prop := fun i j => i < N ∧ j < N ∧ ((i < j ∧ (j < r ∨ (j = r ∧ i < c))) ∨ (j < i ∧ (i < r ∨ (i = r ∧ j < c))))
theorem xb_turn {post : Int32 → SX → Prop} {N : Nat} {on w bm hm : Nat → Int32} (hN : N ≤ 6) (hon : ∀ x, on x = 0 ∨ on x = 1)
    (h : ∀ on' w', rb_TI on (rb_DF N) on' → rb_TI w (rb_DF N) w' → post 0 (nI N, on', w', bm, hm)) : wpX_turn post (nI N, on, w, bm, hm) := by
  have In : ∀ (J : Int32 → Int32 → (Nat → Int32) → (Nat → Int32) → (Nat → Int32) → (Nat → Int32) → Prop) (r : Nat), r < N →
      (∀ co cw, rb_TI on (rb_DX N r N) co → rb_TI w (rb_DX N r N) cw → J (nI (r + 1)) (nI N) co cw bm hm) →
      ∀ (q c : Nat) (co cw : Nat → Int32), c + q = N → r < c → rb_TI on (rb_DX N r c) co → rb_TI w (rb_DX N r c) cw → wX_turn_14 post J (nI r) (q + 1) (nI c) (nI N) co cw bm hm := by
    intro J r hr hJ q
    induction q with
    | zero =>
      intro c co cw hc hrc h1 h2
      have : c = N := by omega
      subst this
      exact br_t (nI_le (Nat.le_refl _) (by omega)) (nm_r (nI_1 r) (hJ co cw h1 h2))
    | succ q ih =>
      intro c co cw hc hrc h1 h2
      refine br_f (by rw [nI_leI (by omega) (by omega)]; omega) ?_
      rw [rb_ix, rb_ix]
      have e := rb_swn_e (rb_TI_P (P := fun x => x = 0 ∨ x = 1) h1 hon) (6 * r + c) (6 * c + r)
      have hD : ∀ i j, i < 6 → j < 6 → (rb_DX N r (c + 1) i j ↔ rb_DX N r c i j ∨ (i = r ∧ j = c) ∨ (i = c ∧ j = r)) := by
        intro i j hi hj; unfold rb_DX; omega
      have n1 : ¬ rb_DX N r c r c := by unfold rb_DX; omega
      have n2 : ¬ rb_DX N r c c r := by unfold rb_DX; omega
      refine xb_swap (by omega) (by omega) (nm_r (nI_1 c) (ih (c + 1) _ _ (by omega) (by omega) ?_ (rb_TI_s h2 (by omega) (by omega) n1 n2 hD)))
      rw [e]
      exact rb_TI_s h1 (by omega) (by omega) n1 n2 hD
  have Out : ∀ (q r : Nat) (co cw : Nat → Int32), r + q = N → rb_TI on (rb_DX N r 0) co → rb_TI w (rb_DX N r 0) cw → wX_turn_2 post (q + 1) (nI r) (nI N) co cw bm hm := by
    intro q
    induction q with
    | zero =>
      intro r co cw hr h1 h2
      have : r = N := by omega
      subst this
      have hD : ∀ i j, i < 6 → j < 6 → (rb_DF r i j ↔ rb_DX r r 0 i j) := by
        intro i j hi hj; unfold rb_DF rb_DX; omega
      exact br_t (nI_le (Nat.le_refl _) (by omega)) (h co cw (rb_TI_c h1 hD) (rb_TI_c h2 hD))
    | succ q ih =>
      intro r co cw hr h1 h2
      have hD0 : ∀ i j, i < 6 → j < 6 → (rb_DX N r (r + 1) i j ↔ rb_DX N r 0 i j) := by
        intro i j hi hj; unfold rb_DX; omega
      have hD1 : ∀ i j, i < 6 → j < 6 → (rb_DX N (r + 1) 0 i j ↔ rb_DX N r N i j) := by
        intro i j hi hj; unfold rb_DX; omega
      exact br_f (by rw [nI_leI (by omega) (by omega)]; omega) (nm_r (nI_1 r) ⟨_, In _ r (by omega) (fun co' cw' g1 g2 => ih (r + 1) co' cw' (by omega) (rb_TI_c g1 hD1) (rb_TI_c g2 hD1)) (N - (r + 1)) (r + 1) co cw (by omega) (by omega) (rb_TI_c h1 hD0) (rb_TI_c h2 hD0)⟩)
  have z : ∀ f : Nat → Int32, rb_TI f (rb_DX N 0 0) f := fun f => ⟨fun i j hi hj => ⟨fun d => by unfold rb_DX at d; omega, fun _ => rfl⟩, fun _ _ => rfl⟩
  exact ⟨_, Out N 0 on w (by omega) (z on) (z w)⟩
theorem yb_turn {post : Int32 → SY → Prop} {N : Nat} {x y z any : Int32} {on w a : Nat → Int32} (hN : N ≤ 6) (hon : ∀ x, on x = 0 ∨ on x = 1)
    (h : ∀ on' w', rb_TI on (rb_DF N) on' → rb_TI w (rb_DF N) w' → post 0 (nI N, x, y, z, any, on', w', a)) : wpY_turn post (nI N, x, y, z, any, on, w, a) := by
  have In : ∀ (J : Int32 → Int32 → Int32 → Int32 → Int32 → Int32 → (Nat → Int32) → (Nat → Int32) → (Nat → Int32) → Prop) (r : Nat), r < N →
      (∀ co cw, rb_TI on (rb_DY N r r) co → rb_TI w (rb_DY N r r) cw → J (nI (r + 1)) (nI N) x y z any co cw a) →
      ∀ (q c : Nat) (co cw : Nat → Int32), c + q = r → rb_TI on (rb_DY N r c) co → rb_TI w (rb_DY N r c) cw → wY_turn_12 post J (nI r) (q + 1) (nI c) (nI N) x y z any co cw a := by
    intro J r hr hJ q
    induction q with
    | zero =>
      intro c co cw hc h1 h2
      have : c = r := by omega
      subst this
      exact br_t (nI_le (Nat.le_refl _) (by omega)) (nm_r (nI_1 c) (hJ co cw h1 h2))
    | succ q ih =>
      intro c co cw hc h1 h2
      refine br_f (by rw [nI_leI (by omega) (by omega)]; omega) ?_
      rw [rb_ix, rb_ix]
      have e := rb_swn_e (rb_TI_P (P := fun x => x = 0 ∨ x = 1) h1 hon) (6 * r + c) (6 * c + r)
      have hD : ∀ i j, i < 6 → j < 6 → (rb_DY N r (c + 1) i j ↔ rb_DY N r c i j ∨ (i = r ∧ j = c) ∨ (i = c ∧ j = r)) := by
        intro i j hi hj; unfold rb_DY; omega
      have n1 : ¬ rb_DY N r c r c := by unfold rb_DY; omega
      have n2 : ¬ rb_DY N r c c r := by unfold rb_DY; omega
      refine yb_swap (by omega) (by omega) (nm_r (nI_1 c) (ih (c + 1) _ _ (by omega) ?_ (rb_TI_s h2 (by omega) (by omega) n1 n2 hD)))
      rw [e]
      exact rb_TI_s h1 (by omega) (by omega) n1 n2 hD
  have Out : ∀ (q r : Nat) (co cw : Nat → Int32), r + q = N → rb_TI on (rb_DY N r 0) co → rb_TI w (rb_DY N r 0) cw → wY_turn_2 post (q + 1) (nI r) (nI N) x y z any co cw a := by
    intro q
    induction q with
    | zero =>
      intro r co cw hr h1 h2
      have : r = N := by omega
      subst this
      have hD : ∀ i j, i < 6 → j < 6 → (rb_DF r i j ↔ rb_DY r r 0 i j) := by
        intro i j hi hj; unfold rb_DF rb_DY; omega
      exact br_t (nI_le (Nat.le_refl _) (by omega)) (h co cw (rb_TI_c h1 hD) (rb_TI_c h2 hD))
    | succ q ih =>
      intro r co cw hr h1 h2
      have hD1 : ∀ i j, i < 6 → j < 6 → (rb_DY N (r + 1) 0 i j ↔ rb_DY N r r i j) := by
        intro i j hi hj; unfold rb_DY; omega
      exact br_f (by rw [nI_leI (by omega) (by omega)]; omega) ⟨_, In _ r (by omega) (fun co' cw' g1 g2 => ih (r + 1) co' cw' (by omega) (rb_TI_c g1 hD1) (rb_TI_c g2 hD1)) r 0 co cw (by omega) h1 h2⟩
  have z' : ∀ f : Nat → Int32, rb_TI f (rb_DY N 0 0) f := fun f => ⟨fun i j hi hj => ⟨fun d => by unfold rb_DY at d; omega, fun _ => rfl⟩, fun _ _ => rfl⟩
  exact ⟨_, Out N 0 on w (by omega) (z' on) (z' w)⟩
/-! complement -/
def rb_fl (v : Int32) : Int32 := if v = 0 then 1 else 0
def rb_cp (N : Nat) (on : Nat → Int32) : Nat → Int32 := fun x => if x / 6 < N ∧ x % 6 < N then rb_fl (on x) else on x
def rb_CX (N : Nat) (on : Nat → Int32) (r c : Nat) : Nat → Int32 := fun x => if x / 6 < N ∧ x % 6 < N ∧ (x / 6 < r ∨ (x / 6 = r ∧ x % 6 < c)) then rb_fl (on x) else on x
theorem rb_CX_s {N r c : Nat} {on : Nat → Int32} (hN : N ≤ 6) (hr : r < N) (hc : c < N) : upd (rb_CX N on r c) (6 * r + c) (rb_fl (on (6 * r + c))) = rb_CX N on r (c + 1) := by
  funext x
  by_cases e : x = 6 * r + c
  · subst e
    rw [pk_us]
    unfold rb_CX
    rw [if_pos (by omega)]
  · rw [pk_un e]
    unfold rb_CX
    by_cases d : x / 6 < N ∧ x % 6 < N ∧ (x / 6 < r ∨ (x / 6 = r ∧ x % 6 < c))
    · rw [if_pos d, if_pos (by omega)]
    · rw [if_neg d, if_neg (by omega)]
theorem rb_CX_v {N r c : Nat} {on : Nat → Int32} (hN : N ≤ 6) (hr : r < N) (hc : c < N) : rb_CX N on r c (6 * r + c) = on (6 * r + c) := by
  unfold rb_CX
  rw [if_neg (by omega)]
theorem rb_CX_N {N r : Nat} {on : Nat → Int32} : rb_CX N on r N = rb_CX N on (r + 1) 0 := by
  funext x
  unfold rb_CX
  by_cases d : x / 6 < N ∧ x % 6 < N ∧ (x / 6 < r ∨ (x / 6 = r ∧ x % 6 < N))
  · rw [if_pos d, if_pos (by omega)]
  · rw [if_neg d, if_neg (by omega)]
theorem rb_CX_0 {N : Nat} {on : Nat → Int32} : rb_CX N on 0 0 = on := by
  funext x
  unfold rb_CX
  rw [if_neg (by omega)]
theorem rb_CX_e {N : Nat} {on : Nat → Int32} : rb_CX N on N 0 = rb_cp N on := by
  funext x
  unfold rb_CX rb_cp
  by_cases d : x / 6 < N ∧ x % 6 < N
  · rw [if_pos d, if_pos (by omega)]
  · rw [if_neg d, if_neg (by omega)]
theorem xb_complement {post : Int32 → SX → Prop} {N : Nat} {on w bm hm : Nat → Int32} (hN : N ≤ 6)
    (h : post (rb_s2 (rb_c1 (rb_cp N on)) N N) (nI N, rb_cp N on, w, bm, hm)) : wpX_complement post (nI N, on, w, bm, hm) := by
  have In : ∀ (J : Int32 → (Nat → Int32) → (Nat → Int32) → (Nat → Int32) → (Nat → Int32) → Prop) (r : Nat), r < N → J (nI (r + 1)) (rb_CX N on r N) w bm hm →
      ∀ (q c : Nat), c + q = N → wX_complement_12 post J (nI r) (nI N) (q + 1) (nI c) (rb_CX N on r c) w bm hm := by
    intro J r hr hJ q
    induction q with
    | zero =>
      intro c hc
      have : c = N := by omega
      subst this
      exact br_t (nI_le (Nat.le_refl _) (by omega)) (nm_r (nI_1 r) hJ)
    | succ q ih =>
      intro c hc
      have ihc := ih (c + 1) (by omega)
      rw [← rb_CX_s hN hr (by omega)] at ihc
      refine br_f (by rw [nI_leI (by omega) (by omega)]; omega) (nm_r (rb_ix r c) ⟨vp_in_nI (by omega) (by decide), ?_⟩)
      rw [nI_clamp (by omega), rb_CX_v hN hr (by omega), rb_vb0, rb_vb1]
      refine br_c (fun o => ⟨vp_in_nI (by omega) (by decide), nm_e (nm_r (nI_1 c) ?_)⟩) (fun o => ⟨vp_in_nI (by omega) (by decide), nm_e (nm_r (nI_1 c) ?_)⟩)
      · rw [show rb_fl (on (6 * r + c)) = 1 from if_pos o] at ihc
        exact ihc
      · rw [show rb_fl (on (6 * r + c)) = 0 from if_neg o] at ihc
        exact ihc
  have Out : ∀ (q r : Nat), r + q = N → wX_complement_2 post (nI N) (q + 1) (nI r) (rb_CX N on r 0) w bm hm := by
    intro q
    induction q with
    | zero =>
      intro r hr
      have : r = N := by omega
      subst this
      rw [rb_CX_e]
      exact br_t (nI_le (Nat.le_refl _) (by omega)) (xb_countCells hN h)
    | succ q ih =>
      intro r hr
      exact br_f (by rw [nI_leI (by omega) (by omega)]; omega) ⟨_, In _ r (by omega) (by rw [rb_CX_N]; exact ih (r + 1) (by omega)) N 0 (by omega)⟩
  have := Out N 0 (by omega)
  rw [rb_CX_0] at this
  exact ⟨_, this⟩
def rb_CY (N : Nat) (on : Nat → Int32) (i : Nat) : Nat → Int32 := fun x => if x < i ∧ x / 6 < N ∧ x % 6 < N then rb_fl (on x) else on x
theorem yb_complement {post : Int32 → SY → Prop} {N : Nat} {x y z any : Int32} {on w a : Nat → Int32} (hN : N ≤ 6) (hon : rb_OK N on)
    (h : post (rb_sum (rb_c1 (rb_cp N on)) 36) (nI N, x, y, z, any, rb_cp N on, w, a)) : wpY_complement post (nI N, x, y, z, any, on, w, a) := by
  have L : ∀ (q i : Nat), i + q = 36 → wY_complement_2 post (nI N) x y z any (q + 1) (nI i) (rb_CY N on i) w a := by
    intro q
    induction q with
    | zero =>
      intro i hi
      have : i = 36 := by omega
      subst this
      have e : rb_CY N on 36 = rb_cp N on := by
        funext x
        unfold rb_CY rb_cp
        by_cases d : x / 6 < N ∧ x % 6 < N
        · rw [if_pos d, if_pos (by omega)]
        · rw [if_neg d, if_neg (by omega)]
      rw [e]
      exact br_t (nI_le (a := 36) (b := 36) (Nat.le_refl _) (by decide)) (yb_cells h)
    | succ q ih =>
      intro i hi
      obtain ⟨r, c, hr, hc, rfl⟩ : ∃ r c, r < 6 ∧ c < 6 ∧ i = 6 * r + c := ⟨i / 6, i % 6, by omega, by omega, by omega⟩
      have ihc := ih (6 * r + c + 1) (by omega)
      have ev : rb_CY N on (6 * r + c) (6 * r + c) = on (6 * r + c) := by
        unfold rb_CY
        rw [if_neg (by omega)]
      have es : ∀ v : Int32, (r < N ∧ c < N → v = rb_fl (on (6 * r + c))) → (¬ (r < N ∧ c < N) → v = on (6 * r + c)) → upd (rb_CY N on (6 * r + c)) (6 * r + c) v = rb_CY N on (6 * r + c + 1) := by
        intro v h1 h2
        funext x
        by_cases e : x = 6 * r + c
        · subst e
          rw [pk_us]
          unfold rb_CY
          by_cases d : r < N ∧ c < N
          · rw [if_pos (by omega)]; exact h1 d
          · rw [if_neg (by omega)]; exact h2 d
        · rw [pk_un e]
          unfold rb_CY
          by_cases d : x < 6 * r + c ∧ x / 6 < N ∧ x % 6 < N
          · rw [if_pos d, if_pos (by omega)]
          · rw [if_neg d, if_neg (by omega)]
      refine br_f (nI_ge (a := 6 * r + c) (b := 36) (by omega) (by decide)) ?_
      by_cases d : r < N ∧ c < N
      · refine yb_noCell0 hN d.1 d.2 (br_t rfl ⟨vp_in_nI (by omega) (by decide), ?_⟩)
        rw [nI_clamp (by omega), ev, rb_vb0, rb_vb1]
        refine br_c (fun o => ⟨vp_in_nI (by omega) (by decide), nm_r (es 1 (fun _ => (if_pos o).symm) (fun n => absurd d n)) (nm_r (nI_1 _) ihc)⟩) (fun o => ⟨vp_in_nI (by omega) (by decide), nm_r (es 0 (fun _ => (if_neg o).symm) (fun n => absurd d n)) (nm_r (nI_1 _) ihc)⟩)
      · refine yb_noCell1 hN ?_ (br_f (by decide) ⟨vp_in_nI (by omega) (by decide), ?_⟩)
        · rintro ⟨r', c', hr', hc', e⟩
          have := (nI_eq (by omega) (by omega)).mp e
          omega
        · rw [nI_clamp (by omega), rb_vb0]
          exact nm_r (es 0 (fun n => absurd n d) (fun _ => (hon.2 r c hr hc (by omega)).symm)) (nm_r (nI_1 _) ihc)
  have e0 : rb_CY N on 0 = on := by
    funext x
    unfold rb_CY
    rw [if_neg (by omega)]
  have := L 36 0 rfl
  rw [e0] at this
  exact ⟨_, this⟩
theorem rb_OK_cp {N : Nat} {on : Nat → Int32} (h : rb_OK N on) : rb_OK N (rb_cp N on) := by
  refine ⟨fun x => ?_, fun r c hr hc ho => ?_⟩
  · unfold rb_cp rb_fl
    split
    · split
      · exact Or.inr rfl
      · exact Or.inl rfl
    · exact h.1 x
  · unfold rb_cp
    rw [if_neg (by omega)]
    exact h.2 r c hr hc ho
/-! a new object -/
def rb_on1 : Nat → Nat → Int32
  | 0 => fun _ => 0
  | i + 1 => upd (rb_on1 i) i 1
theorem xb_init64 {post : SX → Prop} {f : Int32} (h : post (f, (fun _ => 0), rb_on1 36, (fun _ => 0), (fun _ => 0))) : ∃ n, wX_init_64 post f n 0 (fun _ => 0) (fun _ => 0) (fun _ => 0) (fun _ => 0) := by
  have L : ∀ (q i : Nat), i + q = 36 → wX_init_64 post f (q + 1) (nI i) (fun _ => 0) (rb_on1 i) (fun _ => 0) (fun _ => 0) := by
    intro q
    induction q with
    | zero =>
      intro i hi
      have : i = 36 := by omega
      subst this
      exact br_t (nI_le (a := 36) (b := 36) (Nat.le_refl _) (by decide)) h
    | succ q ih =>
      intro i hi
      exact br_f (nI_ge (a := i) (b := 36) (by omega) (by decide)) ⟨vp_in_nI (by omega) (by decide), nm_r (e' := rb_on1 (i + 1)) (by rw [nI_clamp (by omega)]; rfl) (nm_r (nI_1 i) (ih (i + 1) (by omega)))⟩
  exact ⟨_, L 36 0 rfl⟩
theorem yb_init55 {post : SY → Prop} {f : Int32} (h : post (f, 0, 0, 0, 0, (fun _ => 0), rb_on1 36, (fun _ => 0))) : ∃ n, wY_init_55 post f 0 0 0 0 n 0 (fun _ => 0) (fun _ => 0) (fun _ => 0) := by
  have L : ∀ (q i : Nat), i + q = 36 → wY_init_55 post f 0 0 0 0 (q + 1) (nI i) (fun _ => 0) (rb_on1 i) (fun _ => 0) := by
    intro q
    induction q with
    | zero =>
      intro i hi
      have : i = 36 := by omega
      subst this
      exact br_t (nI_le (a := 36) (b := 36) (Nat.le_refl _) (by decide)) h
    | succ q ih =>
      intro i hi
      exact br_f (nI_ge (a := i) (b := 36) (by omega) (by decide)) ⟨vp_in_nI (by omega) (by decide), nm_r (e' := rb_on1 (i + 1)) (by rw [nI_clamp (by omega)]; rfl) (nm_r (nI_1 i) (ih (i + 1) (by omega)))⟩
  exact ⟨_, L 36 0 rfl⟩
theorem rb_size (k0 : Int32) : (1 ≤ k0 ∧ k0 ≤ 6 ∧ ∃ N, 0 < N ∧ N ≤ 6 ∧ k0 = nI N) ∨ (1 ≤ k0 ∧ ¬ k0 ≤ 6) ∨ ¬ 1 ≤ k0 := by
  by_cases h1 : 1 ≤ k0
  · by_cases h2 : k0 ≤ 6
    · left
      have h0 : ¬ k0 < 0 := Int32.not_lt.mpr (Int32.le_trans (by decide) h1)
      obtain ⟨j, hj, rfl⟩ := nI_of h0
      have g1 := (nI_leI (a := 1) (b := j) (by decide) hj).mp h1
      have g2 := (nI_leI (a := j) (b := 6) hj (by decide)).mp h2
      exact ⟨h1, h2, j, g1, g2, rfl⟩
    · exact Or.inr (Or.inl ⟨h1, h2⟩)
  · exact Or.inr (Or.inr h1)
/-! set, weight -/
theorem xb_set {post : Int32 → SX → Prop} {N r c : Nat} {v : Int32} {on w bm hm : Nat → Int32} (hN : N ≤ 6) (hr : r < N) (hc : c < N)
    (h : post (rb_c1 on (6 * r + c)) (nI N, upd on (6 * r + c) (if v = 0 then 0 else 1), w, bm, hm)) : wpX_set post (nI N, on, w, bm, hm) (nI (6 * r + c)) v := by
  unfold wpX_set
  dsimp only
  have go : ∀ z, z = rb_c1 on (6 * r + c) → wX_set_24 post (nI (6 * r + c)) v z (nI N) on w bm hm := by
    intro z ez
    unfold wX_set_24
    rw [nI_clamp (by omega), rb_vb0, rb_vb1, ez]
    refine br_c (fun e => ⟨vp_in_nI (by omega) (by decide), nm_e ?_⟩) (fun e => ⟨vp_in_nI (by omega) (by decide), nm_e ?_⟩)
    · rw [if_pos e] at h; exact h
    · rw [if_neg e] at h; exact h
  refine xb_cell1 hN hr hc (br_f (by decide) ⟨vp_in_nI (by omega) (by decide), ?_⟩)
  rw [nI_clamp (by omega)]
  exact br_c (fun o => go _ (if_pos o).symm) (fun o => go _ (if_neg o).symm)
theorem yb_set {post : Int32 → SY → Prop} {N r c : Nat} {v x y z any : Int32} {on w a : Nat → Int32} (hN : N ≤ 6) (hr : r < N) (hc : c < N)
    (h : post (rb_c1 on (6 * r + c)) (nI N, x, y, z, any, upd on (6 * r + c) (if v = 0 then 0 else 1), w, a)) : wpY_set post (nI N, x, y, z, any, on, w, a) (nI (6 * r + c)) v := by
  unfold wpY_set
  dsimp only
  have go : ∀ q, q = rb_c1 on (6 * r + c) → wY_set_24 post (nI (6 * r + c)) v q (nI N) x y z any on w a := by
    intro q ez
    unfold wY_set_24
    rw [nI_clamp (by omega), rb_vb0, rb_vb1, ez]
    refine br_c (fun e => ⟨vp_in_nI (by omega) (by decide), nm_e ?_⟩) (fun e => ⟨vp_in_nI (by omega) (by decide), nm_e ?_⟩)
    · rw [if_pos e] at h; exact h
    · rw [if_neg e] at h; exact h
  refine yb_noCell0 hN hr hc (br_t rfl ⟨vp_in_nI (by omega) (by decide), ?_⟩)
  rw [nI_clamp (by omega)]
  exact br_c (fun o => go _ (if_pos o).symm) (fun o => go _ (if_neg o).symm)
theorem rb_OK_set {N r c : Nat} {v : Int32} {on : Nat → Int32} (h : rb_OK N on) (hr : r < N) (hc : c < N) (hN : N ≤ 6) : rb_OK N (upd on (6 * r + c) (if v = 0 then 0 else 1)) := by
  refine ⟨fun x => ?_, fun i j hi hj ho => ?_⟩
  · by_cases e : x = 6 * r + c
    · rw [e, pk_us]
      split
      · exact Or.inl rfl
      · exact Or.inr rfl
    · rw [pk_un e]; exact h.1 x
  · rw [pk_un (by omega)]; exact h.2 i j hi hj ho
end
section
/-! U: the relation, and what is owed -/
def i_Rel (_ : Nat) (u : SX) (v : SY) : Prop :=
  ∃ (N : Nat) (on w bm hm : Nat → Int32) (x y z any : Int32) (a : Nat → Int32), u = (nI N, on, w, bm, hm) ∧ v = (nI N, x, y, z, any, on, w, a) ∧ 0 < N ∧ N ≤ 6 ∧ rb_OK N on
theorem i_up {k : Nat} {u : SX} {v : SY} (h : i_Rel k u v) : i_Rel (k + 4) u v := h
theorem rb_mk {k N : Nat} {on w bm hm : Nat → Int32} {x y z any : Int32} {a : Nat → Int32} (h0 : 0 < N) (hN : N ≤ 6) (h : rb_OK N on) : i_Rel k (nI N, on, w, bm, hm) (nI N, x, y, z, any, on, w, a) :=
  ⟨N, on, w, bm, hm, x, y, z, any, a, rfl, rfl, h0, hN, h⟩
theorem rb_new {N : Nat} (h0 : 0 < N) (hN : N ≤ 6) : i_Rel 1 (nI N, (fun _ => 0), rb_on1 36, (fun _ => 0), (fun _ => 0)) (nI N, 0, 0, 0, 0, (fun _ => 0), rb_on1 36, (fun _ => 0)) :=
  rb_mk h0 hN ⟨fun _ => Or.inl rfl, fun _ _ _ _ _ => rfl⟩
theorem i_vc0 (k0 : Int32) : wpX_init (fun u => wpY_init (fun v => i_Rel 1 u v) k0) k0 := by
  rcases rb_size k0 with ⟨h1, h2, N, h0, hN, rfl⟩ | ⟨h1, h2⟩ | h1
  · exact br_t h1 (br_t h2 (xb_init64 (br_t h1 (br_t h2 (yb_init55 (rb_new h0 hN))))))
  · exact br_t h1 (br_f h2 (xb_init64 (br_t h1 (br_f h2 (yb_init55 (rb_new (N := 6) (by decide) (by decide)))))))
  · exact br_f h1 (xb_init64 (br_f h1 (yb_init55 (rb_new (N := 1) (by decide) (by decide)))))
theorem i_vc_set {k : Nat} {u : SX} {v : SY} (I : i_Rel k u v) (hk : k + 4 ≤ 2049) (v1 : Int32) (v2 : Int32) : wpX_set (fun r u' => wpY_set (fun r' v' => r' = r ∧ i_Rel (k + 4) u' v') v v1 v2) u v1 v2 := by
  obtain ⟨N, on, w, bm, hm, x, y, z, any, a, rfl, rfl, h0, hN, hO⟩ := I
  by_cases q : ∃ r c, r < N ∧ c < N ∧ v1 = nI (6 * r + c)
  · obtain ⟨r, c, hr, hc, rfl⟩ := q
    exact xb_set hN hr hc (yb_set hN hr hc ⟨rfl, rb_mk h0 hN (rb_OK_set hO hr hc hN)⟩)
  · unfold wpX_set wpY_set
    dsimp only
    exact xb_cell0 hN q (br_t rfl (yb_noCell1 hN q (br_f (by decide) ⟨rfl, rb_mk h0 hN hO⟩)))
theorem i_vc_weight {k : Nat} {u : SX} {v : SY} (I : i_Rel k u v) (hk : k + 4 ≤ 2049) (v1 : Int32) (v2 : Int32) : wpX_weight (fun r u' => wpY_weight (fun r' v' => r' = r ∧ i_Rel (k + 4) u' v') v v1 v2) u v1 v2 := by
  obtain ⟨N, on, w, bm, hm, x, y, z, any, a, rfl, rfl, h0, hN, hO⟩ := I
  unfold wpX_weight wpY_weight
  dsimp only
  by_cases q : ∃ r c, r < N ∧ c < N ∧ v1 = nI (6 * r + c)
  · obtain ⟨r, c, hr, hc, rfl⟩ := q
    exact xb_cell1 hN hr hc (br_f (by decide) ⟨vp_in_nI (by omega) (by decide), nm_e (yb_noCell0 hN hr hc (br_t rfl ⟨vp_in_nI (by omega) (by decide), nm_e ⟨rfl, rb_mk h0 hN hO⟩⟩))⟩)
  · exact xb_cell0 hN q (br_t rfl (yb_noCell1 hN q (br_f (by decide) ⟨rfl, rb_mk h0 hN hO⟩)))
theorem rb_c1_off {N : Nat} {on : Nat → Int32} (h : rb_OK N on) : ∀ r c, r < 6 → c < 6 → (N ≤ r ∨ N ≤ c) → rb_c1 on (6 * r + c) = 0 := fun r c hr hc ho => if_pos (h.2 r c hr hc ho)
theorem i_vc_complement {k : Nat} {u : SX} {v : SY} (I : i_Rel k u v) (hk : k + 4 ≤ 2049) : wpX_complement (fun r u' => wpY_complement (fun r' v' => r' = r ∧ i_Rel (k + 4) u' v') v) u := by
  obtain ⟨N, on, w, bm, hm, x, y, z, any, a, rfl, rfl, h0, hN, hO⟩ := I
  have hO' := rb_OK_cp hO
  exact xb_complement hN (yb_complement hN hO ⟨rb_s36 hN (rb_c1_off hO'), rb_mk h0 hN hO'⟩)
theorem i_vc_exchange {k : Nat} {u : SX} {v : SY} (I : i_Rel k u v) (hk : k + 4 ≤ 2049) (v1 : Int32) (v2 : Int32) : wpX_exchange (fun r u' => wpY_exchange (fun r' v' => r' = r ∧ i_Rel (k + 4) u' v') v v1 v2) u v1 v2 := by
  obtain ⟨N, on, w, bm, hm, x, y, z, any, a, rfl, rfl, h0, hN, hO⟩ := I
  by_cases q : (∃ k, k < N ∧ v1 = nI k) ∧ ∃ k, k < N ∧ v2 = nI k
  · obtain ⟨⟨i, hi, rfl⟩, j, hj, rfl⟩ := q
    exact xb_exchange hN hi hj (yb_exchange hN hi hj ⟨rfl, rb_mk h0 hN (rb_OK_ex hN hi hj hO N (Nat.le_refl N))⟩)
  · exact xb_exchange0 hN q (yb_exchange1 hN q ⟨rfl, rb_mk h0 hN hO⟩)
theorem i_vc_turn {k : Nat} {u : SX} {v : SY} (I : i_Rel k u v) (hk : k + 4 ≤ 2049) : wpX_turn (fun r u' => wpY_turn (fun r' v' => r' = r ∧ i_Rel (k + 4) u' v') v) u := by
  obtain ⟨N, on, w, bm, hm, x, y, z, any, a, rfl, rfl, h0, hN, hO⟩ := I
  refine xb_turn hN hO.1 (fun on1 w1 g1 g2 => yb_turn hN hO.1 (fun on2 w2 g3 g4 => ⟨rfl, ?_⟩))
  rw [rb_TI_u g3 g1, rb_TI_u g4 g2]
  refine rb_mk h0 hN ⟨rb_TI_P (P := fun x => x = 0 ∨ x = 1) g1 hO.1, fun r c hr hc ho => ?_⟩
  rw [(g1.1 r c hr hc).2 (by unfold rb_DF; omega)]
  exact hO.2 r c hr hc ho
theorem i_vc_cells {k : Nat} {u : SX} {v : SY} (I : i_Rel k u v) (hk : k + 4 ≤ 2049) : wpX_cells (fun r => wpY_cells (fun r' => r' = r ∧ i_Rel (k + 4) u v) v) u := by
  obtain ⟨N, on, w, bm, hm, x, y, z, any, a, rfl, rfl, h0, hN, hO⟩ := I
  unfold wpX_cells
  dsimp only
  exact xb_countCells hN (yb_cells ⟨rb_s36 hN (rb_c1_off hO), rb_mk h0 hN hO⟩)
theorem i_vc_rooks {k : Nat} {u : SX} {v : SY} (I : i_Rel k u v) (hk : k + 4 ≤ 2049) (v1 : Int32) : wpX_rooks (fun r u' => wpY_rooks (fun r' v' => r' = r ∧ i_Rel (k + 4) u' v') v v1) u v1 := by
  obtain ⟨N, on, w, bm, hm, x, y, z, any, a, rfl, rfl, h0, hN, hO⟩ := I
  by_cases q : ∃ k, k ≤ N ∧ v1 = nI k
  · obtain ⟨j, hj, rfl⟩ := q
    exact xb_rooks hN hj (fun bm' => yb_rooks hN h0 hj (fun x y z any a => ⟨rfl, rb_mk h0 hN hO⟩))
  · exact xb_rooks0 hN q (yb_rooks1 hN q ⟨rfl, rb_mk h0 hN hO⟩)
theorem i_vc_hits {k : Nat} {u : SX} {v : SY} (I : i_Rel k u v) (hk : k + 4 ≤ 2049) (v1 : Int32) : wpX_hits (fun r u' => wpY_hits (fun r' v' => r' = r ∧ i_Rel (k + 4) u' v') v v1) u v1 := by
  obtain ⟨N, on, w, bm, hm, x, y, z, any, a, rfl, rfl, h0, hN, hO⟩ := I
  by_cases q : ∃ k, k ≤ N ∧ v1 = nI k
  · obtain ⟨j, hj, rfl⟩ := q
    exact xb_hits hN h0 hj (fun hm' => yb_hits hN h0 hj (fun x y z any a => ⟨rfl, rb_mk h0 hN hO⟩))
  · exact xb_hits0 hN q (yb_hits1 hN q ⟨rfl, rb_mk h0 hN hO⟩)
theorem i_vc_through {k : Nat} {u : SX} {v : SY} (I : i_Rel k u v) (hk : k + 4 ≤ 2049) (v1 : Int32) (v2 : Int32) : wpX_through (fun r u' => wpY_through (fun r' v' => r' = r ∧ i_Rel (k + 4) u' v') v v1 v2) u v1 v2 := by
  obtain ⟨N, on, w, bm, hm, x, y, z, any, a, rfl, rfl, h0, hN, hO⟩ := I
  by_cases q : (∃ r c, r < N ∧ c < N ∧ v1 = nI (6 * r + c)) ∧ ∃ k, k ≤ N ∧ v2 = nI k
  · obtain ⟨⟨r, c, hr, hc, rfl⟩, j, hj, rfl⟩ := q
    exact xb_through hN hr hc hj (fun bm' => yb_through hN h0 hj hr hc (fun x y z any a => ⟨rfl, rb_mk h0 hN hO⟩))
  · exact xb_through0 hN q (yb_through1 hN q ⟨rfl, rb_mk h0 hN hO⟩)
theorem i_vc_sum {k : Nat} {u : SX} {v : SY} (I : i_Rel k u v) (hk : k + 4 ≤ 2049) (v1 : Int32) : wpX_sum (fun r u' => wpY_sum (fun r' v' => r' = r ∧ i_Rel (k + 4) u' v') v v1) u v1 := by
  obtain ⟨N, on, w, bm, hm, x, y, z, any, a, rfl, rfl, h0, hN, hO⟩ := I
  by_cases q : ∃ k, k ≤ N ∧ v1 = nI k
  · obtain ⟨j, hj, rfl⟩ := q
    exact xb_sum hN hj (fun bm' => yb_sum hN h0 hj (fun x y z any a => ⟨rfl, rb_mk h0 hN hO⟩))
  · exact xb_sum0 hN q (yb_sum1 hN q ⟨rfl, rb_mk h0 hN hO⟩)
theorem i_vc_signedSum {k : Nat} {u : SX} {v : SY} (I : i_Rel k u v) (hk : k + 4 ≤ 2049) : wpX_signedSum (fun r u' => wpY_signedSum (fun r' v' => r' = r ∧ i_Rel (k + 4) u' v') v) u := by
  obtain ⟨N, on, w, bm, hm, x, y, z, any, a, rfl, rfl, h0, hN, hO⟩ := I
  exact xb_signedSum hN h0 (fun bm' => yb_signedSum hN h0 (fun x y z any a => ⟨rfl, rb_mk h0 hN hO⟩))
theorem i_vc_most {k : Nat} {u : SX} {v : SY} (I : i_Rel k u v) (hk : k + 4 ≤ 2049) : wpX_most (fun r u' => wpY_most (fun r' v' => r' = r ∧ i_Rel (k + 4) u' v') v) u := by
  obtain ⟨N, on, w, bm, hm, x, y, z, any, a, rfl, rfl, h0, hN, hO⟩ := I
  obtain ⟨K, hK⟩ := rb_most_ex N (rb_B on)
  exact xb_most hN hK (fun bm' => yb_most hN h0 hK (fun x y z any a => ⟨rfl, rb_mk h0 hN hO⟩))
theorem i_vc_lines {k : Nat} {u : SX} {v : SY} (I : i_Rel k u v) (hk : k + 4 ≤ 2049) : wpX_lines (fun r => wpY_lines (fun r' => r' = r ∧ i_Rel (k + 4) u v) v) u := by
  obtain ⟨N, on, w, bm, hm, x, y, z, any, a, rfl, rfl, h0, hN, hO⟩ := I
  refine xb_lines hN (fun lx x0 x1 x2 => yb_lines hN (fun ly y1 y2 => ⟨?_, rb_mk h0 hN hO⟩))
  rw [rb_lines hN x0 x1 x2 y1 y2]
theorem rb_nd_off {N K : Nat} {on : Nat → Int32} (h : rb_OK N on) : ∀ r c, r < 6 → c < 6 → (N ≤ r ∨ N ≤ c) → rb_nd N on K (6 * r + c) = 0 := fun r c hr hc ho => if_pos (h.2 r c hr hc ho)
theorem i_vc_needed {k : Nat} {u : SX} {v : SY} (I : i_Rel k u v) (hk : k + 4 ≤ 2049) : wpX_needed (fun r u' => wpY_needed (fun r' v' => r' = r ∧ i_Rel (k + 4) u' v') v) u := by
  obtain ⟨N, on, w, bm, hm, x, y, z, any, a, rfl, rfl, h0, hN, hO⟩ := I
  obtain ⟨K, hK⟩ := rb_most_ex N (rb_B on)
  exact xb_needed hN hK (fun bm' => yb_needed hN h0 hK hO.2 (fun x y z any a => ⟨rb_s36 hN (rb_nd_off hO), rb_mk h0 hN hO⟩))
theorem i_vc_column {k : Nat} {u : SX} {v : SY} (I : i_Rel k u v) (hk : k + 4 ≤ 2049) (v1 : Int32) (v2 : Int32) (v3 : Int32) : wpX_column (fun r u' => wpY_column (fun r' v' => r' = r ∧ i_Rel (k + 4) u' v') v v1 v2 v3) u v1 v2 v3 := by
  obtain ⟨N, on, w, bm, hm, x, y, z, any, a, rfl, rfl, h0, hN, hO⟩ := I
  by_cases q : (∃ k, k ≤ N ∧ v1 = nI k) ∧ ∃ k, k < N ∧ v3 = nI k
  · obtain ⟨⟨j, hj, rfl⟩, r, hr, rfl⟩ := q
    by_cases hv : v2 < 0
    · exact xb_columnN hN hj hr hv (yb_columnN hN hj hr hv ⟨rfl, rb_mk h0 hN hO⟩)
    · obtain ⟨i, hi, rfl⟩ := nI_of hv
      refine xb_column hN hj hr hi (fun p hp bm' => yb_column hN h0 hj hr hi (fun p' hp' x y z any a => ⟨?_, rb_mk h0 hN hO⟩) (fun hp' => ?_)) (fun hp bm' => yb_column hN h0 hj hr hi (fun p' hp' => ?_) (fun hp' x y z any a => ⟨rfl, rb_mk h0 hN hO⟩))
      · rw [hp] at hp'
        rw [Option.some.inj hp']
      · rw [hp] at hp'
        exact absurd hp' (by simp)
      · rw [hp] at hp'
        exact absurd hp' (by simp)
  · exact xb_column0 hN q (yb_column1 hN q ⟨rfl, rb_mk h0 hN hO⟩)
end
