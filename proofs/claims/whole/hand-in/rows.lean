section
theorem pk_us {f : Nat → Int32} {k : Nat} {x : Int32} : upd f k x k = x := if_pos rfl
theorem pk_un {f : Nat → Int32} {k j : Nat} {x : Int32} (h : j ≠ k) : upd f k x j = f j := if_neg h
theorem pk_sub {a b : Nat} (h : b ≤ a) : nI a - nI b = nI (a - b) := by
  obtain ⟨c, rfl⟩ : ∃ c, a = c + b := ⟨a - b, by omega⟩
  rw [← nI_add, Int32.add_sub_cancel, Nat.add_sub_cancel]
theorem pk_m1 (n : Nat) : nI (n + 1) + (-1) = nI n := by
  rw [← nI_1, Int32.add_assoc, show (1 : Int32) + (-1) = 0 from rfl, Int32.add_zero]
theorem pk_mul (a b : Nat) : nI a * nI b = nI (a * b) := (Int32.ofNat_mul a b).symm
theorem pk_div {a d : Nat} (ha : a < 2 ^ 31) (h0 : 0 < d) (hd : d < 2 ^ 31) : nI a / nI d = nI (a / d) := by
  apply Int32.toInt_inj.mp
  rw [lg_idiv_nonneg (by rw [nI_toInt ha]; omega) (by rw [nI_toInt hd]; omega), nI_toInt ha, nI_toInt hd, nI_toInt (Nat.lt_of_le_of_lt (Nat.div_le_self a d) ha)]
  first | rfl | exact (Int.natCast_ediv _ _).symm
theorem pk_rem {a d : Nat} (ha : a < 2 ^ 31) (h0 : 0 < d) (hd : d < 2 ^ 31) : nI a - nI a / nI d * nI d = nI (a % d) := by
  rw [pk_div ha h0 hd, pk_mul, pk_sub (Nat.div_mul_le_self a d)]
  exact congrArg nI (by have := Nat.div_add_mod' a d; omega)
theorem pk_ix (x : Int32) {n : Nat} (hn : n < 2 ^ 31) : x < 0 ∨ nI n ≤ x ∨ ∃ j : Nat, j < n ∧ x = nI j := by
  by_cases h : x < 0
  · exact Or.inl h
  · obtain ⟨j, hj, rfl⟩ := nI_of h
    by_cases h2 : j < n
    · exact Or.inr (Or.inr ⟨j, h2, rfl⟩)
    · exact Or.inr (Or.inl (nI_le (by omega) hj))
theorem pk_le {x y : Int32} {A B : Prop} (a b : Nat) (f : a ≤ b → A) (g : b < a → B) (hx : x = nI a := by rfl) (hy : y = nI b := by rfl) (ha : a < 2 ^ 31 := by omega) (hb : b < 2 ^ 31 := by omega) : (x ≤ y → A) ∧ (¬ x ≤ y → B) := by
  subst hx hy
  rw [nI_leI ha hb]
  exact ⟨f, fun z => g (by omega)⟩
theorem pk_lt {x y : Int32} {A B : Prop} (a b : Nat) (f : a < b → A) (g : b ≤ a → B) (hx : x = nI a := by rfl) (hy : y = nI b := by rfl) (ha : a < 2 ^ 31 := by omega) (hb : b < 2 ^ 31 := by omega) : (x < y → A) ∧ (¬ x < y → B) := by
  subst hx hy
  rw [nI_ltI ha hb]
  exact ⟨f, fun z => g (by omega)⟩
theorem pk_eq {x y : Int32} {A B : Prop} (a b : Nat) (f : a = b → A) (g : a ≠ b → B) (hx : x = nI a := by rfl) (hy : y = nI b := by rfl) (ha : a < 2 ^ 31 := by omega) (hb : b < 2 ^ 31 := by omega) : (x = y → A) ∧ (¬ x = y → B) := by
  subst hx hy
  rw [nI_eq ha hb]
  exact ⟨f, g⟩
theorem pk_in {x : Int32} (n N : Nat) (h : n < N) (hx : x = nI n := by rfl) (hN : N < 2 ^ 31 := by omega) : vp_in x N := by
  subst hx
  exact vp_in_nI h hN
theorem pk_cl {x : Int32} (n : Nat) (hx : x = nI n := by rfl) (h : n < 2 ^ 31 := by omega) : x.toNatClampNeg = n := by
  subst hx
  exact nI_clamp h
theorem pk_tn {n : Nat} (h : n < 2 ^ 32) : (nI n).toBitVec.toNat = n := Nat.mod_eq_of_lt h
theorem pk_and (x : Int32) {m : Int32} (k : Nat) (hm : m.toBitVec.toNat = 2 ^ k - 1) : x &&& m = nI (x.toBitVec.toNat % 2 ^ k) := by
  apply Int32.toBitVec_inj.mp
  apply BitVec.eq_of_toNat_eq
  rw [Int32.toBitVec_and, BitVec.toNat_and, hm, Nat.and_two_pow_sub_one_eq_mod]
  show _ = (BitVec.ofNat 32 _).toNat
  rw [BitVec.toNat_ofNat]
  exact (Nat.mod_eq_of_lt (Nat.lt_of_le_of_lt (Nat.mod_le _ _) x.toBitVec.isLt)).symm
theorem pk_andN {n : Nat} (h : n < 2 ^ 32) {m : Int32} (k : Nat) (hm : m.toBitVec.toNat = 2 ^ k - 1) : nI n &&& m = nI (n % 2 ^ k) := by
  rw [pk_and _ k hm, pk_tn h]
theorem pk_andE (x : Int32) {m : Int32} (k : Nat) (hm : m.toBitVec.toNat = 2 ^ k - 1) : ∃ j : Nat, j < 2 ^ k ∧ x &&& m = nI j := ⟨_, Nat.mod_lt _ (Nat.two_pow_pos k), pk_and x k hm⟩
theorem pk_shl (a s : Int32) (k : Nat) (hs : (s.toBitVec.smod 32).toNat = k) : (a <<< s).toBitVec.toNat = a.toBitVec.toNat * 2 ^ k % 2 ^ 32 := by
  show (a.toBitVec <<< (s.toBitVec.smod 32).toNat).toNat = _
  rw [hs, BitVec.toNat_shiftLeft, Nat.shiftLeft_eq]
theorem pk_shlN {n : Nat} (s : Int32) (k : Nat) (hs : (s.toBitVec.smod 32).toNat = k) (h : n * 2 ^ k < 2 ^ 32) : nI n <<< s = nI (n * 2 ^ k) := by
  apply Int32.toBitVec_inj.mp
  apply BitVec.eq_of_toNat_eq
  have hn : n < 2 ^ 32 := Nat.lt_of_le_of_lt (Nat.le_mul_of_pos_right n (Nat.two_pow_pos k)) h
  rw [pk_shl _ _ k hs, pk_tn hn, pk_tn h, Nat.mod_eq_of_lt h]
theorem pk_shr (a s : Int32) (k : Nat) (hs : (s.toBitVec.smod 32).toNat = k) : (a >>> s).toInt = a.toInt >>> k := by
  show (a.toBitVec.sshiftRight (s.toBitVec.smod 32).toNat).toInt = _
  rw [hs, BitVec.toInt_sshiftRight]
  rfl
theorem pk_shrN {n : Nat} (h : n < 2 ^ 31) (s : Int32) (k : Nat) (hs : (s.toBitVec.smod 32).toNat = k) : nI n >>> s = nI (n / 2 ^ k) := by
  apply Int32.toInt_inj.mp
  have h2 : n / 2 ^ k ≤ n := Nat.div_le_self _ _
  rw [pk_shr _ _ k hs, nI_toInt h, nI_toInt (by omega), Int.shiftRight_eq_div_pow]
  rfl
theorem ek_if {c d A B : Prop} (e : c ↔ d) (f : d → A) (g : ¬ d → B) : (c → A) ∧ (¬ c → B) :=
  ⟨fun z => f (e.mp z), fun z => g (fun y => z (e.mpr y))⟩
theorem ek_v {α : Sort _} {P : α → Prop} {a b : α} (e : a = b) (h : P b) : P a := e ▸ h
def bt (x : Int32) (i : Nat) : Bool := x.toBitVec.getLsbD i
theorem b_ext {x y : Int32} (h : ∀ i, i < 32 → bt x i = bt y i) : x = y := Int32.toBitVec_inj.mp (BitVec.eq_of_getLsbD_eq (fun i hi => h i hi))
theorem b_or (x y : Int32) (i : Nat) : bt (x ||| y) i = (bt x i || bt y i) := by unfold bt; rw [Int32.toBitVec_or, BitVec.getLsbD_or]
theorem b_and (x y : Int32) (i : Nat) : bt (x &&& y) i = (bt x i && bt y i) := by unfold bt; rw [Int32.toBitVec_and, BitVec.getLsbD_and]
theorem b_xor (x y : Int32) (i : Nat) : bt (x ^^^ y) i = (bt x i ^^ bt y i) := by unfold bt; rw [Int32.toBitVec_xor, BitVec.getLsbD_xor]
theorem b_big {x : Int32} {i : Nat} (h : 32 ≤ i) : bt x i = false := BitVec.getLsbD_of_ge _ _ h
theorem b_255 (i : Nat) : bt 255 i = decide (i < 8) := by
  rcases Nat.lt_or_ge i 32 with h | h
  · exact (by decide +kernel : ∀ i, i < 32 → bt 255 i = decide (i < 8)) i h
  · rw [b_big h, decide_eq_false (by omega)]
theorem b_m1 : ∀ i, i < 32 → bt (-1) i = true := by decide +kernel
theorem b_0 (i : Nat) : bt 0 i = false := BitVec.getLsbD_zero
theorem s_l : ∀ n, n < 32 → ((nI n &&& 31).toBitVec.smod 32).toNat = n := by decide +kernel
theorem b_shl (n : Nat) (hn : n < 32) (x : Int32) {i : Nat} (hi : i < 32) : bt (x <<< (nI n &&& 31)) i = (decide (n ≤ i) && bt x (i - n)) := by
  unfold bt
  rw [Int32.toBitVec_shiftLeft]
  show (x.toBitVec <<< ((nI n &&& 31).toBitVec.smod 32).toNat).getLsbD i = _
  rw [s_l n hn, BitVec.getLsbD_shiftLeft]
  rcases Nat.lt_or_ge i n with h | h
  · simp [h, Nat.not_le.mpr h]
  · simp [hi, h, Nat.not_lt.mpr h]
theorem b_sshr (n : Nat) (hn : n < 32) (x : Int32) {i : Nat} (hi : i < 32) : bt (x >>> (nI n &&& 31)) i = if n + i < 32 then bt x (n + i) else bt x 31 := by
  unfold bt
  rw [Int32.toBitVec_shiftRight]
  show (x.toBitVec.sshiftRight ((nI n &&& 31).toBitVec.smod 32).toNat).getLsbD i = _
  rw [s_l n hn, BitVec.getLsbD_sshiftRight, BitVec.msb_eq_getLsbD_last]
  simp [hi]
end
section
/-! keys: X packs three bits a letter, the first letter highest; Y counts base 7, the first letter lowest -/
def bq_d (p i : Nat) : Nat := if i = 0 then p / 512 % 8 else if i = 1 then p / 64 % 8 else if i = 2 then p / 8 % 8 else p % 8
def bq_V (p : Nat) : Prop := p < 4096 ∧ p / 512 % 8 < 7 ∧ p / 64 % 8 < 7 ∧ p / 8 % 8 < 7 ∧ p % 8 < 7
def bq_c (p : Nat) : Nat := p / 512 % 8 + p / 64 % 8 * 7 + p / 8 % 8 * 49 + p % 8 * 343
def bq_f (p n : Nat) : Nat := if n = 0 then p / 4096 * 4096 else if n = 1 then p / 512 * 512 else if n = 2 then p / 64 * 64 else if n = 3 then p / 8 * 8 else p
/-- the buffer of l letters -/
def bq_B (b l : Nat) : Prop := bq_V b ∧ l ≤ 4 ∧ bq_f b l = b ∧ (l = 0 ∨ 512 ≤ b)
theorem bq_i4 {P : Nat → Prop} (h0 : P 0) (h1 : P 1) (h2 : P 2) (h3 : P 3) {i : Nat} (hi : i < 4) : P i := by
  obtain rfl | rfl | rfl | rfl : i = 0 ∨ i = 1 ∨ i = 2 ∨ i = 3 := by omega
  · exact h0
  · exact h1
  · exact h2
  · exact h3
theorem bq_i5 {P : Nat → Prop} (h0 : P 0) (h1 : P 1) (h2 : P 2) (h3 : P 3) (h4 : P 4) {i : Nat} (hi : i ≤ 4) : P i := by
  obtain rfl | rfl | rfl | rfl | rfl : i = 0 ∨ i = 1 ∨ i = 2 ∨ i = 3 ∨ i = 4 := by omega
  · exact h0
  · exact h1
  · exact h2
  · exact h3
  · exact h4
theorem bq_V0 : bq_V 0 := by unfold bq_V; decide +kernel
theorem bq_c0 : bq_c 0 = 0 := by decide
theorem bq_sum {p : Nat} (h : p < 4096) : p = 512 * (p / 512 % 8) + 64 * (p / 64 % 8) + 8 * (p / 8 % 8) + p % 8 := by omega
theorem bq_dg {p : Nat} (h : bq_V p) : bq_c p % 7 = p / 512 % 8 ∧ bq_c p / 7 % 7 = p / 64 % 8 ∧ bq_c p / 49 % 7 = p / 8 % 8 ∧ bq_c p / 343 % 7 = p % 8 ∧ bq_c p < 2401 := by
  obtain ⟨_, h0, h1, h2, h3⟩ := h
  unfold bq_c
  generalize p / 512 % 8 = a at *
  generalize p / 64 % 8 = b at *
  generalize p / 8 % 8 = c at *
  generalize p % 8 = d at *
  refine ⟨?_, ?_, ?_, ?_, ?_⟩ <;> omega
theorem bq_lt {p : Nat} (h : bq_V p) : bq_c p < 2401 := (bq_dg h).2.2.2.2
theorem bq_inj {p q : Nat} (hp : bq_V p) (hq : bq_V q) (h : bq_c p = bq_c q) : p = q := by
  obtain ⟨a0, a1, a2, a3, _⟩ := bq_dg hp
  obtain ⟨b0, b1, b2, b3, _⟩ := bq_dg hq
  rw [h] at a0 a1 a2 a3
  rw [bq_sum hp.1, bq_sum hq.1, ← a0, ← a1, ← a2, ← a3, b0, b1, b2, b3]
theorem bq_pos {p : Nat} (hp : bq_V p) (h : p ≠ 0) : 0 < bq_c p := by
  rcases Nat.eq_zero_or_pos (bq_c p) with e | e
  · exact absurd (bq_inj hp bq_V0 (e.trans bq_c0.symm)) h
  · exact e
theorem bq_dlt {p : Nat} (hp : bq_V p) (i : Nat) : bq_d p i < 7 := by
  obtain ⟨_, h0, h1, h2, h3⟩ := hp
  unfold bq_d
  split
  · exact h0
  · split
    · exact h1
    · split
      · exact h2
      · exact h3
/-- the order of two keys, place by place -/
theorem bq_lex {p q : Nat} (hp : p < 4096) (hq : q < 4096) {i : Nat} (hi : i < 4) (he : ∀ j, j < i → bq_d p j = bq_d q j) (hn : bq_d p i ≠ bq_d q i) : bq_d p i < bq_d q i ↔ p < q := by
  have e0 : 0 < i → p / 512 % 8 = q / 512 % 8 := fun h => he 0 h
  have e1 : 1 < i → p / 64 % 8 = q / 64 % 8 := fun h => he 1 h
  have e2 : 2 < i → p / 8 % 8 = q / 8 % 8 := fun h => he 2 h
  have sp := bq_sum hp
  have sq := bq_sum hq
  have u0 : p / 64 % 8 < 8 := Nat.mod_lt _ (by decide)
  have u1 : q / 64 % 8 < 8 := Nat.mod_lt _ (by decide)
  have u2 : p / 8 % 8 < 8 := Nat.mod_lt _ (by decide)
  have u3 : q / 8 % 8 < 8 := Nat.mod_lt _ (by decide)
  have u4 : p % 8 < 8 := Nat.mod_lt _ (by decide)
  have u5 : q % 8 < 8 := Nat.mod_lt _ (by decide)
  clear he
  revert hn
  revert e2
  revert e1
  revert e0
  refine bq_i4 (P := fun i => (0 < i → p / 512 % 8 = q / 512 % 8) → (1 < i → p / 64 % 8 = q / 64 % 8) → (2 < i → p / 8 % 8 = q / 8 % 8) → bq_d p i ≠ bq_d q i → (bq_d p i < bq_d q i ↔ p < q)) ?_ ?_ ?_ ?_ hi
  · show _ → _ → _ → p / 512 % 8 ≠ q / 512 % 8 → (p / 512 % 8 < q / 512 % 8 ↔ p < q)
    intro _ _ _ hn
    generalize p / 512 % 8 = a at *
    generalize p / 64 % 8 = b at *
    generalize p / 8 % 8 = c at *
    generalize p % 8 = d at *
    generalize q / 512 % 8 = a' at *
    generalize q / 64 % 8 = b' at *
    generalize q / 8 % 8 = c' at *
    generalize q % 8 = d' at *
    omega
  · show _ → _ → _ → p / 64 % 8 ≠ q / 64 % 8 → (p / 64 % 8 < q / 64 % 8 ↔ p < q)
    intro e0 _ _ hn
    have e0 := e0 (by decide)
    generalize p / 512 % 8 = a at *
    generalize p / 64 % 8 = b at *
    generalize p / 8 % 8 = c at *
    generalize p % 8 = d at *
    generalize q / 512 % 8 = a' at *
    generalize q / 64 % 8 = b' at *
    generalize q / 8 % 8 = c' at *
    generalize q % 8 = d' at *
    omega
  · show _ → _ → _ → p / 8 % 8 ≠ q / 8 % 8 → (p / 8 % 8 < q / 8 % 8 ↔ p < q)
    intro e0 e1 _ hn
    have e0 := e0 (by decide)
    have e1 := e1 (by decide)
    generalize p / 512 % 8 = a at *
    generalize p / 64 % 8 = b at *
    generalize p / 8 % 8 = c at *
    generalize p % 8 = d at *
    generalize q / 512 % 8 = a' at *
    generalize q / 64 % 8 = b' at *
    generalize q / 8 % 8 = c' at *
    generalize q % 8 = d' at *
    omega
  · show _ → _ → _ → p % 8 ≠ q % 8 → (p % 8 < q % 8 ↔ p < q)
    intro e0 e1 e2 hn
    have e0 := e0 (by decide)
    have e1 := e1 (by decide)
    have e2 := e2 (by decide)
    generalize p / 512 % 8 = a at *
    generalize p / 64 % 8 = b at *
    generalize p / 8 % 8 = c at *
    generalize p % 8 = d at *
    generalize q / 512 % 8 = a' at *
    generalize q / 64 % 8 = b' at *
    generalize q / 8 % 8 = c' at *
    generalize q % 8 = d' at *
    omega
theorem bq_dall {p q : Nat} (hp : p < 4096) (hq : q < 4096) (h : ∀ j, j < 4 → bq_d p j = bq_d q j) : p = q := by
  have e0 : p / 512 % 8 = q / 512 % 8 := h 0 (by decide)
  have e1 : p / 64 % 8 = q / 64 % 8 := h 1 (by decide)
  have e2 : p / 8 % 8 = q / 8 % 8 := h 2 (by decide)
  have e3 : p % 8 = q % 8 := h 3 (by decide)
  rw [bq_sum hp, bq_sum hq, e0, e1, e2, e3]
/-- a key begins with the buffer -/
theorem bq_pre {p b l : Nat} (hp : p < 4096) (hB : bq_B b l) : bq_f p l = b ↔ ∀ j, j < l → bq_d p j = bq_d b j := by
  obtain ⟨⟨hb, _⟩, hl, hf, _⟩ := hB
  have sp := bq_sum hp
  have sb := bq_sum hb
  revert hf
  refine bq_i5 (P := fun l => bq_f b l = b → (bq_f p l = b ↔ ∀ j, j < l → bq_d p j = bq_d b j)) ?_ ?_ ?_ ?_ ?_ hl
  · show b / 4096 * 4096 = b → (p / 4096 * 4096 = b ↔ _)
    intro hf
    exact ⟨fun _ j hj => absurd hj (by omega), fun _ => by omega⟩
  · show b / 512 * 512 = b → (p / 512 * 512 = b ↔ _)
    intro hf
    constructor
    · intro e j hj
      obtain rfl : j = 0 := by omega
      show p / 512 % 8 = b / 512 % 8
      omega
    · intro h
      have h0 : p / 512 % 8 = b / 512 % 8 := h 0 (by decide)
      omega
  · show b / 64 * 64 = b → (p / 64 * 64 = b ↔ _)
    intro hf
    constructor
    · intro e j hj
      obtain rfl | rfl : j = 0 ∨ j = 1 := by omega
      · show p / 512 % 8 = b / 512 % 8
        omega
      · show p / 64 % 8 = b / 64 % 8
        omega
    · intro h
      have h0 : p / 512 % 8 = b / 512 % 8 := h 0 (by decide)
      have h1 : p / 64 % 8 = b / 64 % 8 := h 1 (by decide)
      omega
  · show b / 8 * 8 = b → (p / 8 * 8 = b ↔ _)
    intro hf
    constructor
    · intro e j hj
      obtain rfl | rfl | rfl : j = 0 ∨ j = 1 ∨ j = 2 := by omega
      · show p / 512 % 8 = b / 512 % 8
        omega
      · show p / 64 % 8 = b / 64 % 8
        omega
      · show p / 8 % 8 = b / 8 % 8
        omega
    · intro h
      have h0 : p / 512 % 8 = b / 512 % 8 := h 0 (by decide)
      have h1 : p / 64 % 8 = b / 64 % 8 := h 1 (by decide)
      have h2 : p / 8 % 8 = b / 8 % 8 := h 2 (by decide)
      omega
  · show b = b → (p = b ↔ _)
    intro _
    exact ⟨fun e j _ => by rw [e], fun h => bq_dall hp hb h⟩
/-- one letter more -/
theorem bq_typ {b l t : Nat} (hB : bq_B b l) (hl : l < 4) (ht : t < 6) : bq_B (b + (t + 1) * 2 ^ (9 - 3 * l)) (l + 1) ∧ bq_c (b + (t + 1) * 2 ^ (9 - 3 * l)) = bq_c b + (t + 1) * 7 ^ l ∧ 2 ^ (12 - 3 * l) * (b / 2 ^ (12 - 3 * l)) = b ∧ (t + 1) * 2 ^ (9 - 3 * l) < 2 ^ (12 - 3 * l) := by
  obtain ⟨⟨hb, d0, d1, d2, d3⟩, _, hf, hz⟩ := hB
  obtain rfl | rfl | rfl | rfl : l = 0 ∨ l = 1 ∨ l = 2 ∨ l = 3 := by omega
  · have hf : b / 4096 * 4096 = b := hf
    obtain rfl : b = 0 := by omega
    clear hf hz hb d0 d1 d2 d3
    obtain rfl | rfl | rfl | rfl | rfl | rfl : t = 0 ∨ t = 1 ∨ t = 2 ∨ t = 3 ∨ t = 4 ∨ t = 5 := by omega
    all_goals (refine ⟨⟨?_, ?_, ?_, ?_⟩, ?_, ?_, ?_⟩ <;> (try unfold bq_V) <;> decide +kernel)
  · have hf : b / 512 * 512 = b := hf
    show (_ ∧ _ ∧ (b + (t + 1) * 64) / 64 * 64 = b + (t + 1) * 64 ∧ _) ∧ _ ∧ 512 * (b / 512) = b ∧ (t + 1) * 64 < 512
    refine ⟨⟨?_, by decide, ?_, ?_⟩, ?_, ?_, ?_⟩
    · show (b + (t + 1) * 64) < 4096 ∧ (b + (t + 1) * 64) / 512 % 8 < 7 ∧ (b + (t + 1) * 64) / 64 % 8 < 7 ∧ (b + (t + 1) * 64) / 8 % 8 < 7 ∧ (b + (t + 1) * 64) % 8 < 7
      refine ⟨?_, ?_, ?_, ?_, ?_⟩ <;> omega
    · omega
    · right
      show 512 ≤ b + (t + 1) * 64
      omega
    · show (b + (t + 1) * 64) / 512 % 8 + (b + (t + 1) * 64) / 64 % 8 * 7 + (b + (t + 1) * 64) / 8 % 8 * 49 + (b + (t + 1) * 64) % 8 * 343 = b / 512 % 8 + b / 64 % 8 * 7 + b / 8 % 8 * 49 + b % 8 * 343 + (t + 1) * 7
      omega
    · omega
    · omega
  · have hf : b / 64 * 64 = b := hf
    show (_ ∧ _ ∧ (b + (t + 1) * 8) / 8 * 8 = b + (t + 1) * 8 ∧ _) ∧ _ ∧ 64 * (b / 64) = b ∧ (t + 1) * 8 < 64
    refine ⟨⟨?_, by decide, ?_, ?_⟩, ?_, ?_, ?_⟩
    · show (b + (t + 1) * 8) < 4096 ∧ (b + (t + 1) * 8) / 512 % 8 < 7 ∧ (b + (t + 1) * 8) / 64 % 8 < 7 ∧ (b + (t + 1) * 8) / 8 % 8 < 7 ∧ (b + (t + 1) * 8) % 8 < 7
      refine ⟨?_, ?_, ?_, ?_, ?_⟩ <;> omega
    · omega
    · right
      show 512 ≤ b + (t + 1) * 8
      omega
    · show (b + (t + 1) * 8) / 512 % 8 + (b + (t + 1) * 8) / 64 % 8 * 7 + (b + (t + 1) * 8) / 8 % 8 * 49 + (b + (t + 1) * 8) % 8 * 343 = b / 512 % 8 + b / 64 % 8 * 7 + b / 8 % 8 * 49 + b % 8 * 343 + (t + 1) * 49
      omega
    · omega
    · omega
  · have hf : b / 8 * 8 = b := hf
    show (_ ∧ _ ∧ b + (t + 1) * 1 = b + (t + 1) * 1 ∧ _) ∧ _ ∧ 8 * (b / 8) = b ∧ (t + 1) * 1 < 8
    refine ⟨⟨?_, by decide, ?_, ?_⟩, ?_, ?_, ?_⟩
    · show (b + (t + 1) * 1) < 4096 ∧ (b + (t + 1) * 1) / 512 % 8 < 7 ∧ (b + (t + 1) * 1) / 64 % 8 < 7 ∧ (b + (t + 1) * 1) / 8 % 8 < 7 ∧ (b + (t + 1) * 1) % 8 < 7
      refine ⟨?_, ?_, ?_, ?_, ?_⟩ <;> omega
    · omega
    · right
      show 512 ≤ b + (t + 1) * 1
      omega
    · show (b + (t + 1) * 1) / 512 % 8 + (b + (t + 1) * 1) / 64 % 8 * 7 + (b + (t + 1) * 1) / 8 % 8 * 49 + (b + (t + 1) * 1) % 8 * 343 = b / 512 % 8 + b / 64 % 8 * 7 + b / 8 % 8 * 49 + b % 8 * 343 + (t + 1) * 343
      omega
    · omega
    · omega
/-- a key cut off behind its place i, where the folder's letter stands -/
theorem bq_cut {p i : Nat} (hp : bq_V p) (hi : i < 4) : bq_V (bq_f p (i + 1)) ∧ bq_c (bq_f p (i + 1)) = bq_c p % 7 ^ (i + 1) ∧ (bq_d p i = 6 → bq_f p (i + 1) ≠ 0) := by
  obtain ⟨hb, d0, d1, d2, d3⟩ := hp
  obtain rfl | rfl | rfl | rfl : i = 0 ∨ i = 1 ∨ i = 2 ∨ i = 3 := by omega
  · refine ⟨?_, ?_, ?_⟩
    · show (p / 512 * 512) < 4096 ∧ (p / 512 * 512) / 512 % 8 < 7 ∧ (p / 512 * 512) / 64 % 8 < 7 ∧ (p / 512 * 512) / 8 % 8 < 7 ∧ (p / 512 * 512) % 8 < 7
      refine ⟨?_, ?_, ?_, ?_, ?_⟩ <;> omega
    · show (p / 512 * 512) / 512 % 8 + (p / 512 * 512) / 64 % 8 * 7 + (p / 512 * 512) / 8 % 8 * 49 + (p / 512 * 512) % 8 * 343 = (p / 512 % 8 + p / 64 % 8 * 7 + p / 8 % 8 * 49 + p % 8 * 343) % 7
      have e0 : (p / 512 * 512) / 512 % 8 = p / 512 % 8 := by omega
      have e1 : (p / 512 * 512) / 64 % 8 = 0 := by omega
      have e2 : (p / 512 * 512) / 8 % 8 = 0 := by omega
      have e3 : (p / 512 * 512) % 8 = 0 := by omega
      rw [e0, e1, e2, e3]
      clear e0 e1 e2 e3
      generalize p / 512 % 8 = x at *
      generalize p / 64 % 8 = y at *
      generalize p / 8 % 8 = z at *
      generalize p % 8 = t at *
      omega
    · show p / 512 % 8 = 6 → p / 512 * 512 ≠ 0
      omega
  · refine ⟨?_, ?_, ?_⟩
    · show (p / 64 * 64) < 4096 ∧ (p / 64 * 64) / 512 % 8 < 7 ∧ (p / 64 * 64) / 64 % 8 < 7 ∧ (p / 64 * 64) / 8 % 8 < 7 ∧ (p / 64 * 64) % 8 < 7
      refine ⟨?_, ?_, ?_, ?_, ?_⟩ <;> omega
    · show (p / 64 * 64) / 512 % 8 + (p / 64 * 64) / 64 % 8 * 7 + (p / 64 * 64) / 8 % 8 * 49 + (p / 64 * 64) % 8 * 343 = (p / 512 % 8 + p / 64 % 8 * 7 + p / 8 % 8 * 49 + p % 8 * 343) % 49
      have e0 : (p / 64 * 64) / 512 % 8 = p / 512 % 8 := by omega
      have e1 : (p / 64 * 64) / 64 % 8 = p / 64 % 8 := by omega
      have e2 : (p / 64 * 64) / 8 % 8 = 0 := by omega
      have e3 : (p / 64 * 64) % 8 = 0 := by omega
      rw [e0, e1, e2, e3]
      clear e0 e1 e2 e3
      generalize p / 512 % 8 = x at *
      generalize p / 64 % 8 = y at *
      generalize p / 8 % 8 = z at *
      generalize p % 8 = t at *
      omega
    · show p / 64 % 8 = 6 → p / 64 * 64 ≠ 0
      omega
  · refine ⟨?_, ?_, ?_⟩
    · show (p / 8 * 8) < 4096 ∧ (p / 8 * 8) / 512 % 8 < 7 ∧ (p / 8 * 8) / 64 % 8 < 7 ∧ (p / 8 * 8) / 8 % 8 < 7 ∧ (p / 8 * 8) % 8 < 7
      refine ⟨?_, ?_, ?_, ?_, ?_⟩ <;> omega
    · show (p / 8 * 8) / 512 % 8 + (p / 8 * 8) / 64 % 8 * 7 + (p / 8 * 8) / 8 % 8 * 49 + (p / 8 * 8) % 8 * 343 = (p / 512 % 8 + p / 64 % 8 * 7 + p / 8 % 8 * 49 + p % 8 * 343) % 343
      have e0 : (p / 8 * 8) / 512 % 8 = p / 512 % 8 := by omega
      have e1 : (p / 8 * 8) / 64 % 8 = p / 64 % 8 := by omega
      have e2 : (p / 8 * 8) / 8 % 8 = p / 8 % 8 := by omega
      have e3 : (p / 8 * 8) % 8 = 0 := by omega
      rw [e0, e1, e2, e3]
      clear e0 e1 e2 e3
      generalize p / 512 % 8 = x at *
      generalize p / 64 % 8 = y at *
      generalize p / 8 % 8 = z at *
      generalize p % 8 = t at *
      omega
    · show p / 8 % 8 = 6 → p / 8 * 8 ≠ 0
      omega
  · refine ⟨⟨hb, d0, d1, d2, d3⟩, ?_, ?_⟩
    · show bq_c p = bq_c p % 2401
      exact (Nat.mod_eq_of_lt (bq_lt ⟨hb, d0, d1, d2, d3⟩)).symm
    · show p % 8 = 6 → p ≠ 0
      omega
end
section
/-! how many of the slots s .. c-1 have the key q -/
def bq_n (K : Nat → Nat) (q : Nat) (s : Nat) : Nat → Nat
  | 0 => 0
  | d + 1 => (if K s = q then 1 else 0) + bq_n K q (s + 1) d
def bq_N (K : Nat → Nat) (q c s : Nat) : Nat := bq_n K q s (c - s)
theorem bq_Nge {K : Nat → Nat} {q c s : Nat} (h : c ≤ s) : bq_N K q c s = 0 := by
  unfold bq_N
  rw [Nat.sub_eq_zero_of_le h]
  rfl
theorem bq_Nlt {K : Nat → Nat} {q c s : Nat} (h : s < c) : bq_N K q c s = (if K s = q then 1 else 0) + bq_N K q c (s + 1) := by
  unfold bq_N
  obtain ⟨d, hd⟩ : ∃ d, c - s = d + 1 := ⟨c - s - 1, by omega⟩
  rw [hd, show c - (s + 1) = d from by omega]
  rfl
theorem bq_Nt {K : Nat → Nat} {q c s : Nat} (h : s < c) (e : K s = q) : bq_N K q c s = bq_N K q c (s + 1) + 1 := by
  rw [bq_Nlt h, if_pos e, Nat.add_comm]
theorem bq_Nf {K : Nat → Nat} {q c s : Nat} (h : s < c) (e : K s ≠ q) : bq_N K q c s = bq_N K q c (s + 1) := by
  rw [bq_Nlt h, if_neg e, Nat.zero_add]
theorem bq_Nle {K : Nat → Nat} {q c : Nat} : ∀ d s, s + d = c → bq_N K q c s ≤ d := by
  intro d
  induction d with
  | zero => intro s h; rw [bq_Nge (by omega)]; exact Nat.le_refl _
  | succ d ih =>
    intro s h
    have := ih (s + 1) (by omega)
    by_cases e : K s = q
    · rw [bq_Nt (by omega) e]; omega
    · rw [bq_Nf (by omega) e]; omega
theorem bq_Nc {K : Nat → Nat} {q c s : Nat} : bq_N K q c s ≤ c := by
  rcases Nat.lt_or_ge s c with h | h
  · have := bq_Nle (K := K) (q := q) (c := c) (c - s) s (by omega)
    omega
  · rw [bq_Nge h]; omega
theorem bq_Nmono {K : Nat → Nat} {q c : Nat} : ∀ d s, bq_N K q c (s + d) ≤ bq_N K q c s := by
  intro d
  induction d with
  | zero => intro s; exact Nat.le_refl _
  | succ d ih =>
    intro s
    have h := ih (s + 1)
    rw [show s + 1 + d = s + (d + 1) from by omega] at h
    rcases Nat.lt_or_ge s c with hs | hs
    · rw [bq_Nlt hs]; omega
    · rw [bq_Nge (show c ≤ s + (d + 1) by omega)]; omega
theorem bq_Nm {K : Nat → Nat} {q c s t : Nat} (h : s ≤ t) : bq_N K q c t ≤ bq_N K q c s := by
  obtain ⟨d, rfl⟩ : ∃ d, t = s + d := ⟨t - s, by omega⟩
  exact bq_Nmono d s
theorem bq_Nlt2 {K : Nat → Nat} {q c s t : Nat} (h : s < t) (ht : t < c) (e : K t = q) : bq_N K q c (t + 1) < bq_N K q c (s + 1) := by
  have h1 := bq_Nm (K := K) (q := q) (c := c) (s := s + 1) (t := t) (by omega)
  rw [bq_Nt ht e] at h1
  omega
theorem bq_N0 {K : Nat → Nat} {q c s t : Nat} (h : bq_N K q c s = 0) (hs : s ≤ t) (ht : t < c) : K t ≠ q := by
  intro e
  have h1 := bq_Nm (K := K) (q := q) (c := c) hs
  rw [bq_Nt ht e] at h1
  omega
theorem bq_N0' {K : Nat → Nat} {q c s : Nat} (h : ∀ t, s ≤ t → t < c → K t ≠ q) : bq_N K q c s = 0 := by
  obtain ⟨d, hd⟩ : ∃ d, d = c - s := ⟨_, rfl⟩
  induction d generalizing s with
  | zero => exact bq_Nge (by omega)
  | succ d ih =>
    rw [bq_Nf (by omega) (h s (Nat.le_refl _) (by omega))]
    exact ih (fun t h1 h2 => h t (by omega) h2) (by omega)
/-- the slot with i newer ones of its key is the only one -/
theorem bq_un {K : Nat → Nat} {q c s t : Nat} (hs : s < c) (es : K s = q) (ht : t < c) (et : K t = q) (h : bq_N K q c (s + 1) = bq_N K q c (t + 1)) : s = t := by
  rcases Nat.lt_trichotomy s t with h1 | h1 | h1
  · have := bq_Nlt2 (K := K) (q := q) (c := c) h1 ht et; omega
  · exact h1
  · have := bq_Nlt2 (K := K) (q := q) (c := c) h1 hs es; omega
/-- among the slots of a key each number up to the last is met -/
theorem bq_hit {K : Nat → Nat} {q c : Nat} : ∀ d s m, s + d = c → m < bq_N K q c s → ∃ t, s ≤ t ∧ t < c ∧ K t = q ∧ bq_N K q c (t + 1) = m := by
  intro d
  induction d with
  | zero => intro s m h hm; rw [bq_Nge (by omega)] at hm; omega
  | succ d ih =>
    intro s m h hm
    by_cases e : K s = q
    · by_cases h2 : m = bq_N K q c (s + 1)
      · exact ⟨s, Nat.le_refl _, by omega, e, h2.symm⟩
      · rw [bq_Nt (by omega) e] at hm
        obtain ⟨t, a, b⟩ := ih (s + 1) m (by omega) (by omega)
        exact ⟨t, by omega, b⟩
    · rw [bq_Nf (by omega) e] at hm
      obtain ⟨t, a, b⟩ := ih (s + 1) m (by omega) hm
      exact ⟨t, by omega, b⟩
theorem bq_newest {K : Nat → Nat} {q c s : Nat} (hs : s < c) (e : K s = q) : ∃ t, t < c ∧ K t = q ∧ bq_N K q c (t + 1) = 0 := by
  have h : 0 < bq_N K q c s := by rw [bq_Nt hs e]; omega
  obtain ⟨t, _, a⟩ := bq_hit (K := K) (q := q) (c := c) (c - s) s 0 (by omega) h
  exact ⟨t, a⟩
/-! the least element above e of a set, 0 if there is none -/
def bq_M (C : Nat → Prop) (e r : Nat) : Prop := (r = 0 ∧ ∀ x, C x → x ≤ e) ∨ (C r ∧ e < r ∧ ∀ x, C x → e < x → r ≤ x)
theorem bq_Mu {C : Nat → Prop} {e r t : Nat} (h : bq_M C e r) (h' : bq_M C e t) : r = t := by
  rcases h with ⟨rfl, h⟩ | ⟨a, b, h⟩
  · rcases h' with ⟨rfl, _⟩ | ⟨a', b', _⟩
    · rfl
    · have := h t a'; omega
  · rcases h' with ⟨rfl, h'⟩ | ⟨a', b', h'⟩
    · have := h' r a; omega
    · have := h t a' b'
      have := h' r a b
      omega
theorem bq_Mc {C D : Nat → Prop} {e r : Nat} (hD : ∀ x, D x ↔ C x) (h : bq_M C e r) : bq_M D e r := by
  rcases h with ⟨rfl, h⟩ | ⟨a, b, h⟩
  · exact Or.inl ⟨rfl, fun x hx => h x ((hD x).mp hx)⟩
  · exact Or.inr ⟨(hD r).mpr a, b, fun x hx => h x ((hD x).mp hx)⟩
theorem bq_Mlow {C D : Nat → Prop} {e r z : Nat} (hD : ∀ x, D x ↔ C x ∨ x = z) (hz : z ≤ e) (h : bq_M C e r) : bq_M D e r := by
  rcases h with ⟨rfl, h⟩ | ⟨a, b, h⟩
  · refine Or.inl ⟨rfl, fun x hx => ?_⟩
    rcases (hD x).mp hx with h1 | h1
    · exact h x h1
    · omega
  · refine Or.inr ⟨(hD r).mpr (Or.inl a), b, fun x hx h2 => ?_⟩
    rcases (hD x).mp hx with h1 | h1
    · exact h x h1 h2
    · omega
theorem bq_Mnew {C D : Nat → Prop} {e r z : Nat} (hD : ∀ x, D x ↔ C x ∨ x = z) (hz : e < z) (hr : r = 0 ∨ z < r) (h : bq_M C e r) : bq_M D e z := by
  refine Or.inr ⟨(hD z).mpr (Or.inr rfl), hz, fun x hx h2 => ?_⟩
  rcases (hD x).mp hx with h1 | h1
  · rcases h with ⟨e0, h⟩ | ⟨a, b, h⟩
    · have := h x h1; omega
    · have := h x h1 h2; omega
  · omega
theorem bq_Mold {C D : Nat → Prop} {e r z : Nat} (hD : ∀ x, D x ↔ C x ∨ x = z) (hr : r ≠ 0) (hz : r ≤ z) (h : bq_M C e r) : bq_M D e r := by
  rcases h with ⟨e0, h⟩ | ⟨a, b, h⟩
  · exact absurd e0 hr
  · refine Or.inr ⟨(hD r).mpr (Or.inl a), b, fun x hx h2 => ?_⟩
    rcases (hD x).mp hx with h1 | h1
    · exact h x h1 h2
    · omega
/-! numbers -/
theorem bq_z1 : nI 0 + (-1) < 0 := by decide +kernel
theorem bq_s1 (n : Nat) : nI n - 1 = nI n + (-1) := Int32.sub_eq_add_neg ..
theorem bq_cnt {n : Nat} (h : n ≤ 4) (k : Nat) (hk : k = 12 - 3 * n) : ((4 : Int32) - nI n) * 3 = nI k := by
  show (nI 4 - nI n) * nI 3 = nI k
  rw [pk_sub h, pk_mul]
  exact congrArg nI (by omega)
theorem bq_cnt3 {n : Nat} (h : n ≤ 3) (k : Nat) (hk : k = 9 - 3 * n) : ((3 : Int32) - nI n) * 3 = nI k := by
  show (nI 3 - nI n) * nI 3 = nI k
  rw [pk_sub h, pk_mul]
  exact congrArg nI (by omega)
theorem bq_mask (x : Int32) (k : Nat) (hk : k < 32) : x &&& ((-1 : Int32) <<< (nI k &&& 31)) = (x >>> (nI k &&& 31)) <<< (nI k &&& 31) := by
  apply b_ext
  intro i hi
  rw [b_and, b_shl k hk _ hi, b_shl k hk _ hi]
  by_cases h : k ≤ i
  · rw [b_m1 _ (by omega), b_sshr k hk _ (by omega), if_pos (by omega), show k + (i - k) = i from by omega, decide_eq_true h]
    simp
  · rw [decide_eq_false h]
    simp
theorem bq_maskN {p k : Nat} (hp : p < 4096) (hk : k < 32) : nI p &&& ((-1 : Int32) <<< (nI k &&& 31)) = nI (p / 2 ^ k * 2 ^ k) := by
  rw [bq_mask _ k hk, pk_shrN (by omega) _ k (s_l k hk), pk_shlN _ k (s_l k hk)]
  have := Nat.div_mul_le_self p (2 ^ k)
  omega
theorem bq_first {p n : Nat} (hp : p < 4096) (hn : n ≤ 4) : nI p &&& ((-1 : Int32) <<< ((((4 : Int32) - nI n) * 3) &&& 31)) = nI (bq_f p n) := by
  rw [bq_cnt hn _ rfl, bq_maskN hp (by omega)]
  obtain rfl | rfl | rfl | rfl | rfl : n = 0 ∨ n = 1 ∨ n = 2 ∨ n = 3 ∨ n = 4 := by omega
  · rfl
  · rfl
  · rfl
  · rfl
  · show nI (p / 1 * 1) = nI p
    rw [Nat.div_one, Nat.mul_one]
theorem bq_flt {p : Nat} (hp : p < 4096) (n : Nat) : bq_f p n < 4096 := by
  unfold bq_f
  split
  · omega
  · split
    · omega
    · split
      · omega
      · split <;> omega
theorem bq_digX {p i : Nat} (hp : p < 4096) (hi : i < 4) : (nI p >>> ((((3 : Int32) - nI i) * 3) &&& 31)) &&& 7 = nI (bq_d p i) := by
  rw [bq_cnt3 (by omega) _ rfl, pk_shrN (by omega) _ _ (s_l (9 - 3 * i) (by omega)), pk_andN (Nat.lt_of_le_of_lt (Nat.div_le_self _ _) (by omega)) 3 (by decide +kernel)]
  obtain rfl | rfl | rfl | rfl : i = 0 ∨ i = 1 ∨ i = 2 ∨ i = 3 := by omega
  · rfl
  · rfl
  · rfl
  · show nI (p / 1 % 8) = nI (p % 8)
    rw [Nat.div_one]
theorem bq_or (a b : Nat) : nI a ||| nI b = nI (a ||| b) := by
  apply Int32.toBitVec_inj.1
  show BitVec.ofNat 32 a ||| BitVec.ofNat 32 b = BitVec.ofNat 32 (a ||| b)
  apply BitVec.eq_of_getLsbD_eq
  intro i hi
  simp [hi]
theorem bq_typX {b l t : Nat} (hB : bq_B b l) (hl : l < 4) (ht : t < 6) : nI b ||| ((nI t + 1) <<< ((((3 : Int32) - nI l) * 3) &&& 31)) = nI (b + (t + 1) * 2 ^ (9 - 3 * l)) := by
  obtain ⟨_, _, h3, h4⟩ := bq_typ hB hl ht
  have h5 : 2 ^ (12 - 3 * l) ≤ 2 ^ 12 := Nat.pow_le_pow_right (by decide) (by omega)
  rw [bq_cnt3 (by omega) _ rfl, nI_1, pk_shlN _ _ (s_l (9 - 3 * l) (by omega)) (by omega), bq_or]
  have h6 := Nat.two_pow_add_eq_or_of_lt h4 (b / 2 ^ (12 - 3 * l))
  rw [h3] at h6
  rw [h6]
/-- one bit of an int -/
theorem bq_bit (x : Int32) {i : Nat} (hi : i < 32) : (x >>> (nI i &&& 31)) &&& 1 = if bt x i then 1 else 0 := by
  apply b_ext
  intro j hj
  have h1 : bt 1 j = decide (j = 0) := (by decide +kernel : ∀ j, j < 32 → bt 1 j = decide (j = 0)) j hj
  rw [b_and, b_sshr i hi _ hj, h1]
  by_cases e : j = 0
  · subst e
    rw [if_pos (show i + 0 < 32 by omega), Nat.add_zero]
    cases bt x i
    · decide +kernel
    · decide +kernel
  · rw [decide_eq_false e, Bool.and_false]
    cases bt x i
    · exact (b_0 j).symm
    · exact (h1.trans (decide_eq_false e)).symm
theorem bq_set (x : Int32) {n i : Nat} (hn : n < 8) (hi : i < 8) : bt (x ||| ((1 : Int32) <<< (nI n &&& 31))) i = (bt x i || decide (i = n)) := by
  rw [b_or, b_shl n (by omega) _ (by omega)]
  have h1 : ∀ j, j < 32 → bt 1 j = decide (j = 0) := by decide +kernel
  rw [h1 _ (by omega)]
  congr 1
  by_cases e : i = n
  · subst e
    simp
  · rw [decide_eq_false e]
    by_cases h : n ≤ i
    · rw [decide_eq_false (show ¬ i - n = 0 by omega), Bool.and_false]
    · rw [decide_eq_false h, Bool.false_and]
theorem bq_miss (x y : Int32) : (x &&& 255) &&& (y ^^^ (-1)) = 0 ↔ ∀ i, i < 8 → bt x i = true → bt y i = true := by
  constructor
  · intro h i hi hx
    have h2 : bt ((x &&& 255) &&& (y ^^^ (-1))) i = false := by rw [h]; exact b_0 i
    rw [b_and, b_and, b_xor, b_255, b_m1 i (by omega), hx, decide_eq_true hi] at h2
    simpa using h2
  · intro h
    apply b_ext
    intro i hi
    rw [b_and, b_and, b_xor, b_255, b_m1 i hi, b_0]
    by_cases h8 : i < 8
    · cases e : bt x i
      · simp
      · rw [h i h8 e]
        simp
    · rw [decide_eq_false h8]
      simp
theorem bq_255 (x : Int32) {i : Nat} (hi : i < 8) : bt (x &&& 255) i = bt x i := by
  rw [b_and, b_255, decide_eq_true hi, Bool.and_true]
/-- a slot taken away: what stands behind it moves down -/
def bq_sh {α : Type} (s c : Nat) (f : Nat → α) : Nat → α := fun i => if s ≤ i ∧ i + 1 < c then f (i + 1) else f i
theorem bq_sh0 {α : Type} {s c : Nat} {f : Nat → α} (h : c ≤ s + 1) : bq_sh s c f = f := by
  funext i
  unfold bq_sh
  rw [if_neg (by omega)]
def bq_up {α : Type} (f : Nat → α) (k : Nat) (x : α) : Nat → α := fun j => if j = k then x else f j
theorem bq_upd (f : Nat → Int32) (k : Nat) (x : Int32) : upd f k x = bq_up f k x := rfl
theorem bq_updN (g : Nat → Int32) (f : Nat → Nat) (k v : Nat) (h : Nat → Nat) (hg : g = fun i => nI (h (f i))) : upd g k (nI (h v)) = fun i => nI (h (bq_up f k v i)) := by
  subst hg
  funext j
  unfold upd bq_up
  by_cases e : j = k
  · rw [if_pos e, if_pos e]
  · rw [if_neg e, if_neg e]
theorem bq_shs {α : Type} {s c : Nat} {f : Nat → α} (h : s + 1 < c) : bq_sh (s + 1) c (bq_up f s (f (s + 1))) = bq_sh s c f := by
  funext i
  unfold bq_sh bq_up
  by_cases e : i = s
  · subst e
    rw [if_neg (by omega), if_pos rfl, if_pos ⟨Nat.le_refl _, h⟩]
  · by_cases h1 : s + 1 ≤ i ∧ i + 1 < c
    · rw [if_pos h1, if_neg (by omega), if_pos ⟨by omega, h1.2⟩]
    · rw [if_neg h1, if_neg e, if_neg (by omega)]
/-! the relation -/
def bq_h (S : Nat → Int32) : Nat → Int32 := fun j => if bt (S (j / 8)) (j % 8) then 1 else 0
abbrev bq_x (b l c nx : Nat) (K : Nat → Nat) (nu co mk : Nat → Int32) (U : Nat → Nat) (S w : Nat → Int32) : SX := (nI b, nI l, nI c, nI nx, (fun i => nI (K i)), nu, co, mk, (fun i => nI (U i)), S, w)
abbrev bq_y (b l c nx : Nat) (K : Nat → Nat) (nu co ob : Nat → Int32) (U : Nat → Nat) (S w : Nat → Int32) : SY := (nI (bq_c b), nI l, nI nx, nI c, nu, (fun i => nI (bq_c (K i))), ob, co, (fun i => nI (bq_c (U i))), bq_h S, w)
/-- the versions: keys, and marker against object -/
def bq_C (c : Nat) (K : Nat → Nat) (mk ob : Nat → Int32) : Prop := c ≤ 24 ∧ (∀ i, bq_V (K i)) ∧ (∀ i, i < c → K i ≠ 0) ∧ (∀ i, i < c → (mk i = 0 ∧ ob i = 1) ∨ (mk i = 1 ∧ ob i = 0))
def i_Rel (k : Nat) (u : SX) (v : SY) : Prop := ∃ (b l c nx : Nat) (K : Nat → Nat) (nu co mk ob : Nat → Int32) (U : Nat → Nat) (S w : Nat → Int32), u = bq_x b l c nx K nu co mk U S w ∧ v = bq_y b l c nx K nu co ob U S w ∧ bq_B b l ∧ bq_C c K mk ob ∧ (∀ i, bq_V (U i)) ∧ nx ≤ k
theorem i_up {k : Nat} {u : SX} {v : SY} (h : i_Rel k u v) : i_Rel (k + 4) u v := by
  obtain ⟨b, l, c, nx, K, nu, co, mk, ob, U, S, w, h1, h2, h3, h4, h5, h6⟩ := h
  exact ⟨b, l, c, nx, K, nu, co, mk, ob, U, S, w, h1, h2, h3, h4, h5, by omega⟩
theorem bq_hz : (fun _ => 0 : Nat → Int32) = bq_h (fun _ => 0) := by
  funext i
  unfold bq_h
  rw [b_0]
  rfl
theorem i_vc0 : wpX_init (fun u => wpY_init (fun v => i_Rel 0 u v)) := by
  refine ⟨0, 0, 0, 0, fun _ => 0, fun _ => 0, fun _ => 0, fun _ => 0, fun _ => 0, fun _ => 0, fun _ => 0, fun _ => 0, rfl, ?_, ⟨bq_V0, by decide, by decide, Or.inl rfl⟩, ⟨by decide, fun _ => bq_V0, fun i h => absurd h (by omega), fun i h => absurd h (by omega)⟩, fun _ => bq_V0, Nat.le_refl _⟩
  unfold bq_y
  rw [← bq_hz]
  dsimp only
  rw [bq_c0]
  rfl
end
section
section
variable {b l c nx : Nat} {K U : Nat → Nat} {nu co mk ob S w : Nat → Int32}
theorem bq_nm1 {n : Nat} (h : n < 2 ^ 31) : ¬ nI n = -1 := fun e => nI_pos h (by rw [e]; decide +kernel)
theorem bq_ni {a b : Nat} (ha : a < 2 ^ 31) (hb : b < 2 ^ 31) (h : nI a = nI b) : a = b := (nI_eq ha hb).mp h
theorem bq_nar {x : Int32} (h : x = 0 ∨ x = 1) : vp_nar .boolean x = x := by
  rcases h with rfl | rfl
  · decide +kernel
  · decide +kernel
/-! X: the slot of the i-th newest -/
theorem bx_slot_l {post : Int32 → Prop} {q : Nat} {i : Int32} (hc : c ≤ 24) (hV : ∀ j, bq_V (K j)) (hq : bq_V q) (h1 : (∀ s, s < c → K s = q → nI (bq_N K q c (s + 1)) ≠ i) → post (-1)) (h2 : ∀ s, s < c → K s = q → nI (bq_N K q c (s + 1)) = i → post (nI s)) : ∀ d x, d ≤ c → x = nI d + (-1) → (∀ s, d ≤ s → s < c → K s = q → nI (bq_N K q c (s + 1)) ≠ i) → wX_slotOfNewest_10 post (nI q) i (nI b) (nI l) (nI c) (nI nx) (fun i => nI (K i)) nu co mk (fun i => nI (U i)) S w (d + 1) (nI (bq_N K q c d)) x := by
  intro d
  induction d with
  | zero =>
    intro x _ hx hn
    subst hx
    exact br_t bq_z1 (h1 fun s => hn s (Nat.zero_le _))
  | succ d ih =>
    intro x hd hx hn
    rw [pk_m1] at hx
    subst hx
    have hcl : (nI d).toNatClampNeg = d := nI_clamp (by omega)
    refine br_f (nI_pos (by omega)) ⟨vp_in_nI (by omega) (by decide), ?_⟩
    refine pk_eq (K d) q (fun e => ?_) (fun e => ?_) (congrArg (fun j => nI (K j)) hcl) rfl (by have := (hV d).1; omega) (by have := hq.1; omega)
    · refine br_c (fun hi => h2 d (by omega) e hi) (fun hi => nm_r (?_ : _ = nI (bq_N K q c d)) (nm_e (ih _ (by omega) rfl ?_)))
      · rw [nI_1, bq_Nt (by omega) e]
      · intro s hs hsc es
        by_cases e2 : s = d
        · subst e2
          exact hi
        · exact hn s (by omega) hsc es
    · refine nm_e ?_
      have h3 := ih _ (by omega) rfl (fun s hs hsc es => hn s (by
        by_cases e2 : s = d
        · subst e2
          exact absurd es e
        · omega) hsc es)
      rw [bq_Nf (by omega) e] at h3
      exact h3
theorem bx_slot {post : Int32 → Prop} {q : Nat} {i : Int32} (hc : c ≤ 24) (hV : ∀ j, bq_V (K j)) (hq : bq_V q) (h1 : (∀ s, s < c → K s = q → nI (bq_N K q c (s + 1)) ≠ i) → post (-1)) (h2 : ∀ s, s < c → K s = q → nI (bq_N K q c (s + 1)) = i → post (nI s)) : wpX_slotOfNewest post (bq_x b l c nx K nu co mk U S w) (nI q) i := by
  show ∀ x4 : Int32, x4 = nI c - 1 → ∃ n, wX_slotOfNewest_10 post (nI q) i (nI b) (nI l) (nI c) (nI nx) (fun i => nI (K i)) nu co mk (fun i => nI (U i)) S w n 0 x4
  have h3 := bx_slot_l (b := b) (l := l) (nx := nx) (nu := nu) (co := co) (mk := mk) (U := U) (S := S) (w := w) hc hV hq h1 h2 c _ (Nat.le_refl c) rfl (fun s h1 h2 => absurd h1 (by omega))
  rw [bq_Nge (Nat.le_refl c)] at h3
  exact nm_r (bq_s1 c) ⟨c + 1, h3⟩
theorem bx_slot1 {post : Int32 → Prop} {q m s : Nat} (hc : c ≤ 24) (hV : ∀ j, bq_V (K j)) (hq : bq_V q) (hs : s < c) (e : K s = q) (hN : bq_N K q c (s + 1) = m) (h : post (nI s)) : wpX_slotOfNewest post (bq_x b l c nx K nu co mk U S w) (nI q) (nI m) := by
  refine bx_slot hc hV hq (fun hn => absurd (congrArg nI hN) (hn s hs e)) (fun t ht et hN' => ?_)
  have b1 := bq_Nc (K := K) (q := q) (c := c) (s := t + 1)
  have b2 := bq_Nc (K := K) (q := q) (c := c) (s := s + 1)
  have h2 := bq_ni (by omega) (by omega) hN'
  cases bq_un hs e ht et (hN.trans h2.symm)
  exact h
theorem bx_slot0 {post : Int32 → Prop} {q m : Nat} (hc : c ≤ 24) (hV : ∀ j, bq_V (K j)) (hq : bq_V q) (hm : m < 2 ^ 31) (hn : ∀ s, s < c → K s = q → bq_N K q c (s + 1) ≠ m) (h : post (-1)) : wpX_slotOfNewest post (bq_x b l c nx K nu co mk U S w) (nI q) (nI m) := by
  refine bx_slot hc hV hq (fun _ => h) (fun t ht et hN' => ?_)
  have b1 := bq_Nc (K := K) (q := q) (c := c) (s := t + 1)
  exact absurd (bq_ni (by omega) hm hN') (hn t ht et)
theorem bx_cur1 {post : Int32 → Prop} {q s : Nat} (hc : c ≤ 24) (hV : ∀ j, bq_V (K j)) (hq : bq_V q) (hs : s < c) (e : K s = q) (hN : bq_N K q c (s + 1) = 0) (hm : mk s = 0) (h : post (nI s)) : wpX_currentSlot post (bq_x b l c nx K nu co mk U S w) (nI q) := by
  unfold wpX_currentSlot
  dsimp only
  refine bx_slot1 (m := 0) hc hV hq hs e hN ?_
  exact br_f (bq_nm1 (by omega)) ⟨vp_in_nI (by omega) (by decide), br_t ((congrArg mk (nI_clamp (by omega))).trans hm) h⟩
theorem bx_cur0 {post : Int32 → Prop} {q : Nat} (hc : c ≤ 24) (hV : ∀ j, bq_V (K j)) (hq : bq_V q) (hn : ∀ s, s < c → K s = q → bq_N K q c (s + 1) = 0 → mk s ≠ 0) (h : post (-1)) : wpX_currentSlot post (bq_x b l c nx K nu co mk U S w) (nI q) := by
  unfold wpX_currentSlot
  dsimp only
  by_cases hx : ∃ s, s < c ∧ K s = q ∧ bq_N K q c (s + 1) = 0
  · obtain ⟨s, hs, e, hN⟩ := hx
    refine bx_slot1 (m := 0) hc hV hq hs e hN ?_
    exact br_f (bq_nm1 (by omega)) ⟨vp_in_nI (by omega) (by decide), br_f (fun z => hn s hs e hN ((congrArg mk (nI_clamp (by omega))).symm.trans z)) h⟩
  · refine bx_slot0 (m := 0) hc hV hq (by decide) (fun s hs e hN => hx ⟨s, hs, e, hN⟩) ?_
    exact br_t rfl h
theorem bx_pr1 {post : Int32 → Prop} {q s : Nat} (hc : c ≤ 24) (hV : ∀ j, bq_V (K j)) (hq : bq_V q) (hs : s < c) (e : K s = q) (hN : bq_N K q c (s + 1) = 0) (hm : mk s = 0) (h : post 1) : wpX_isPresent post (bq_x b l c nx K nu co mk U S w) (nI q) := by
  unfold wpX_isPresent
  dsimp only
  refine bx_cur1 hc hV hq hs e hN hm ?_
  exact br_f (bq_nm1 (by omega)) h
theorem bx_pr0 {post : Int32 → Prop} {q : Nat} (hc : c ≤ 24) (hV : ∀ j, bq_V (K j)) (hq : bq_V q) (hn : ∀ s, s < c → K s = q → bq_N K q c (s + 1) = 0 → mk s ≠ 0) (h : post 0) : wpX_isPresent post (bq_x b l c nx K nu co mk U S w) (nI q) := by
  unfold wpX_isPresent
  dsimp only
  refine bx_cur0 hc hV hq hn ?_
  exact br_t rfl h
/-! Y: newest, isPresent -/
theorem by_new_l {post : Int32 → Prop} {q : Nat} (hc : c ≤ 24) (hV : ∀ j, bq_V (K j)) (hq : bq_V q) (h1 : (∀ s, s < c → K s ≠ q) → post (-1)) (h2 : ∀ s, s < c → K s = q → (∀ t, s + 1 ≤ t → t < c → K t ≠ q) → post (nI s)) : ∀ d x, d ≤ c → x = nI d + (-1) → (∀ s, d ≤ s → s < c → K s ≠ q) → wY_newest_7 post (nI (bq_c q)) (nI (bq_c b)) (nI l) (nI nx) (nI c) nu (fun i => nI (bq_c (K i))) ob co (fun i => nI (bq_c (U i))) (bq_h S) w (d + 1) x := by
  intro d
  induction d with
  | zero =>
    intro x _ hx hn
    subst hx
    exact br_t bq_z1 (h1 fun s => hn s (Nat.zero_le _))
  | succ d ih =>
    intro x hd hx hn
    rw [pk_m1] at hx
    subst hx
    have hcl : (nI d).toNatClampNeg = d := nI_clamp (by omega)
    refine br_f (nI_pos (by omega)) ⟨vp_in_nI (by omega) (by decide), ?_⟩
    refine pk_eq (bq_c (K d)) (bq_c q) (fun e => ?_) (fun e => ?_) (congrArg (fun j => nI (bq_c (K j))) hcl) rfl (by have := bq_lt (hV d); omega) (by have := bq_lt hq; omega)
    · exact h2 d (by omega) (bq_inj (hV d) hq e) hn
    · exact nm_e (ih _ (by omega) rfl (fun s hs hsc es => by
        by_cases e2 : s = d
        · subst e2
          exact e (congrArg bq_c es)
        · exact hn s (by omega) hsc es))
theorem by_new1 {post : Int32 → Prop} {q s : Nat} (hc : c ≤ 24) (hV : ∀ j, bq_V (K j)) (hq : bq_V q) (hs : s < c) (e : K s = q) (hN : bq_N K q c (s + 1) = 0) (h : post (nI s)) : wpY_newest post (bq_y b l c nx K nu co ob U S w) (nI (bq_c q)) := by
  show ∀ x2 : Int32, x2 = nI c - 1 → ∃ n, wY_newest_7 post (nI (bq_c q)) (nI (bq_c b)) (nI l) (nI nx) (nI c) nu (fun i => nI (bq_c (K i))) ob co (fun i => nI (bq_c (U i))) (bq_h S) w n x2
  refine nm_r (bq_s1 c) ⟨c + 1, by_new_l hc hV hq (fun hn => absurd e (hn s hs)) (fun t ht et hn => ?_) c _ (Nat.le_refl c) rfl (fun s h1 h2 => absurd h1 (by omega))⟩
  cases bq_un hs e ht et (hN.trans (bq_N0' hn).symm)
  exact h
theorem by_new0 {post : Int32 → Prop} {q : Nat} (hc : c ≤ 24) (hV : ∀ j, bq_V (K j)) (hq : bq_V q) (hn : ∀ s, s < c → K s ≠ q) (h : post (-1)) : wpY_newest post (bq_y b l c nx K nu co ob U S w) (nI (bq_c q)) := by
  show ∀ x2 : Int32, x2 = nI c - 1 → ∃ n, wY_newest_7 post (nI (bq_c q)) (nI (bq_c b)) (nI l) (nI nx) (nI c) nu (fun i => nI (bq_c (K i))) ob co (fun i => nI (bq_c (U i))) (bq_h S) w n x2
  exact nm_r (bq_s1 c) ⟨c + 1, by_new_l hc hV hq (fun _ => h) (fun t ht et _ => absurd et (hn t ht)) c _ (Nat.le_refl c) rfl (fun s h1 h2 => absurd h1 (by omega))⟩
theorem by_pr1 {post : Int32 → Prop} {q s : Nat} (hc : c ≤ 24) (hV : ∀ j, bq_V (K j)) (hq : bq_V q) (hs : s < c) (e : K s = q) (hN : bq_N K q c (s + 1) = 0) (hm : ob s = 1) (h : post 1) : wpY_isPresent post (bq_y b l c nx K nu co ob U S w) (nI (bq_c q)) := by
  unfold wpY_isPresent
  dsimp only
  refine by_new1 hc hV hq hs e hN ?_
  exact br_f (nI_pos (by omega)) ⟨vp_in_nI (by omega) (by decide), br_f (fun z => absurd (((congrArg ob (nI_clamp (by omega))).trans hm).symm.trans z) (by decide)) h⟩
theorem by_pr0 {post : Int32 → Prop} {q : Nat} (hc : c ≤ 24) (hV : ∀ j, bq_V (K j)) (hq : bq_V q) (hn : ∀ s, s < c → K s = q → bq_N K q c (s + 1) = 0 → ob s = 0) (h : post 0) : wpY_isPresent post (bq_y b l c nx K nu co ob U S w) (nI (bq_c q)) := by
  unfold wpY_isPresent
  dsimp only
  by_cases hx : ∃ s, s < c ∧ K s = q ∧ bq_N K q c (s + 1) = 0
  · obtain ⟨s, hs, e, hN⟩ := hx
    refine by_new1 hc hV hq hs e hN ?_
    exact br_f (nI_pos (by omega)) ⟨vp_in_nI (by omega) (by decide), br_t ((congrArg ob (nI_clamp (by omega))).trans (hn s hs e hN)) h⟩
  · refine by_new0 hc hV hq (fun s hs e => hx (bq_newest hs e)) ?_
    exact br_t (by decide) h
/-! both: the slot of a version's number -/
theorem bz_find_l (hc : c ≤ 24) (v : Int32) : ∀ d j, j + d = c → ∃ r : Int32, (r = -1 ∨ ∃ s, s < c ∧ r = nI s) ∧ (∀ post : Int32 → Prop, post r → wX_slotOfVersion_2 post v (nI b) (nI l) (nI c) (nI nx) (fun i => nI (K i)) nu co mk (fun i => nI (U i)) S w (d + 1) (nI j)) ∧ (∀ post : Int32 → Prop, post r → wY_find_2 post v (nI (bq_c b)) (nI l) (nI nx) (nI c) nu (fun i => nI (bq_c (K i))) ob co (fun i => nI (bq_c (U i))) (bq_h S) w (d + 1) (nI j)) := by
  intro d
  induction d with
  | zero =>
    intro j hj
    have h : nI c ≤ nI j := nI_le (by omega) (by omega)
    exact ⟨-1, Or.inl rfl, fun _ hp => br_t h hp, fun _ hp => br_t h hp⟩
  | succ d ih =>
    intro j hj
    have h : ¬ nI c ≤ nI j := nI_ge (by omega) (by omega)
    have hi : vp_in (nI j) 24 := vp_in_nI (by omega) (by decide)
    by_cases z : nu (nI j).toNatClampNeg = v
    · exact ⟨nI j, Or.inr ⟨j, by omega, rfl⟩, fun _ hp => br_f h ⟨hi, br_t z hp⟩, fun _ hp => br_f h ⟨hi, br_t z hp⟩⟩
    · obtain ⟨r, hr, hX, hY⟩ := ih (j + 1) (by omega)
      exact ⟨r, hr, fun post hp => br_f h ⟨hi, br_f z (nm_r (nI_1 j) (hX post hp))⟩, fun post hp => br_f h ⟨hi, br_f z (nm_r (nI_1 j) (hY post hp))⟩⟩
theorem bz_find (b l nx : Nat) (K U : Nat → Nat) (nu co mk ob S w : Nat → Int32) (hc : c ≤ 24) (v : Int32) : ∃ r : Int32, (r = -1 ∨ ∃ s, s < c ∧ r = nI s) ∧ (∀ post : Int32 → Prop, post r → wpX_slotOfVersion post (bq_x b l c nx K nu co mk U S w) v) ∧ (∀ post : Int32 → Prop, post r → wpY_find post (bq_y b l c nx K nu co ob U S w) v) := by
  obtain ⟨r, hr, hX, hY⟩ := bz_find_l (b := b) (l := l) (nx := nx) (K := K) (U := U) (nu := nu) (co := co) (mk := mk) (ob := ob) (S := S) (w := w) hc v c 0 (by omega)
  exact ⟨r, hr, fun post hp => ⟨_, hX post hp⟩, fun post hp => ⟨_, hY post hp⟩⟩
/-! Y: newer, versionsOf -/
theorem by_newer_l {post : Int32 → Prop} {s : Nat} (hc : c ≤ 24) (hV : ∀ j, bq_V (K j)) (hs : s < 24) : ∀ d j a, j + d = c → post (nI (a + bq_N K (K s) c j)) → wY_newer_6 post (nI s) (nI (bq_c b)) (nI l) (nI nx) (nI c) nu (fun i => nI (bq_c (K i))) ob co (fun i => nI (bq_c (U i))) (bq_h S) w (d + 1) (nI a) (nI j) := by
  intro d
  induction d with
  | zero =>
    intro j a hj hp
    rw [bq_Nge (by omega)] at hp
    exact br_t (nI_le (by omega) (by omega)) hp
  | succ d ih =>
    intro j a hj hp
    have hcl : (nI j).toNatClampNeg = j := nI_clamp (by omega)
    have hcs : (nI s).toNatClampNeg = s := nI_clamp (by omega)
    refine br_f (nI_ge (by omega) (by omega)) ⟨vp_in_nI (by omega) (by decide), vp_in_nI hs (by decide), ?_⟩
    refine pk_eq (bq_c (K j)) (bq_c (K s)) (fun e => ?_) (fun e => ?_) (congrArg (fun j => nI (bq_c (K j))) hcl) (congrArg (fun j => nI (bq_c (K j))) hcs) (by have := bq_lt (hV j); omega) (by have := bq_lt (hV s); omega)
    · refine nm_r (nI_1 a) (nm_r (nI_1 j) (ih _ _ (by omega) ?_))
      rw [bq_Nt (by omega) (bq_inj (hV j) (hV s) e)] at hp
      rw [show a + 1 + bq_N K (K s) c (j + 1) = a + (bq_N K (K s) c (j + 1) + 1) from by omega]
      exact hp
    · refine nm_r (nI_1 j) (ih _ _ (by omega) ?_)
      rw [bq_Nf (by omega) (fun e2 => e (congrArg bq_c e2))] at hp
      exact hp
theorem by_newer {post : Int32 → Prop} {s : Nat} (hc : c ≤ 24) (hV : ∀ j, bq_V (K j)) (hs : s < c) (h : post (nI (bq_N K (K s) c (s + 1)))) : wpY_newer post (bq_y b l c nx K nu co ob U S w) (nI s) := by
  show ∀ x3 : Int32, x3 = nI s + 1 → ∃ n, wY_newer_6 post (nI s) (nI (bq_c b)) (nI l) (nI nx) (nI c) nu (fun i => nI (bq_c (K i))) ob co (fun i => nI (bq_c (U i))) (bq_h S) w n 0 x3
  refine nm_r (nI_1 s) ⟨c - (s + 1) + 1, by_newer_l hc hV (by omega) _ _ 0 (by omega) ?_⟩
  rw [Nat.zero_add]
  exact h
theorem by_vers_l {post : Int32 → Prop} {q : Nat} (hc : c ≤ 24) (hV : ∀ j, bq_V (K j)) (hq : bq_V q) : ∀ d j a, j + d = c → post (nI (a + bq_N K q c j)) → wY_versionsOf_4 post (nI (bq_c q)) (nI (bq_c b)) (nI l) (nI nx) (nI c) nu (fun i => nI (bq_c (K i))) ob co (fun i => nI (bq_c (U i))) (bq_h S) w (d + 1) (nI a) (nI j) := by
  intro d
  induction d with
  | zero =>
    intro j a hj hp
    rw [bq_Nge (by omega)] at hp
    exact br_t (nI_le (by omega) (by omega)) hp
  | succ d ih =>
    intro j a hj hp
    have hcl : (nI j).toNatClampNeg = j := nI_clamp (by omega)
    refine br_f (nI_ge (by omega) (by omega)) ⟨vp_in_nI (by omega) (by decide), ?_⟩
    refine pk_eq (bq_c (K j)) (bq_c q) (fun e => ?_) (fun e => ?_) (congrArg (fun j => nI (bq_c (K j))) hcl) rfl (by have := bq_lt (hV j); omega) (by have := bq_lt hq; omega)
    · refine nm_r (nI_1 a) (nm_r (nI_1 j) (ih _ _ (by omega) ?_))
      rw [bq_Nt (by omega) (bq_inj (hV j) hq e)] at hp
      rw [show a + 1 + bq_N K q c (j + 1) = a + (bq_N K q c (j + 1) + 1) from by omega]
      exact hp
    · refine nm_r (nI_1 j) (ih _ _ (by omega) ?_)
      rw [bq_Nf (by omega) (fun e2 => e (congrArg bq_c e2))] at hp
      exact hp
theorem by_vers {post : Int32 → Prop} {q : Nat} (hc : c ≤ 24) (hV : ∀ j, bq_V (K j)) (hq : bq_V q) (h : post (nI (bq_N K q c 0))) : wpY_versionsOf post (bq_y b l c nx K nu co ob U S w) (nI (bq_c q)) := by
  refine ⟨c + 1, by_vers_l hc hV hq c 0 0 (by omega) ?_⟩
  rw [Nat.zero_add]
  exact h
/-! both: a slot taken away -/
theorem bx_take_l {post : SX → Prop} (hc : c ≤ 24) : ∀ d s (K : Nat → Nat) (nu co mk : Nat → Int32), s + 1 + d = c → (∀ i, i < c → mk i = 0 ∨ mk i = 1) → post (bq_x b l (c - 1) nx (bq_sh s c K) (bq_sh s c nu) (bq_sh s c co) (bq_sh s c mk) U S w) → wX_takeAway_2 post (nI b) (nI l) (nI c) (nI nx) (d + 1) (nI s) (fun i => nI (K i)) nu co mk (fun i => nI (U i)) S w := by
  intro d
  induction d with
  | zero =>
    intro s K nu co mk hs hm hp
    simp only [bq_sh0 (show c ≤ s + 1 by omega)] at hp
    refine br_t ?_ (nm_r (pk_sub (a := c) (b := 1) (by omega)) hp)
    rw [nI_1]
    exact nI_le (by omega) (by omega)
  | succ d ih =>
    intro s K nu co mk hs hm hp
    have hcl : (nI s).toNatClampNeg = s := nI_clamp (by omega)
    have hcl1 : (nI s + 1).toNatClampNeg = s + 1 := by rw [nI_1]; exact nI_clamp (by omega)
    have hi : vp_in (nI s) 24 := vp_in_nI (by omega) (by decide)
    have hi1 : vp_in (nI s + 1) 24 := by rw [nI_1]; exact vp_in_nI (by omega) (by decide)
    have hn : ¬ nI c ≤ nI s + 1 := by rw [nI_1]; exact nI_ge (by omega) (by omega)
    have hm1 := bq_nar (hm (s + 1) (by omega))
    have e1 : upd (fun i => nI (K i)) (nI s).toNatClampNeg ((fun i => nI (K i)) (nI s + 1).toNatClampNeg) = fun i => nI (bq_up K s (K (s + 1)) i) := by
      rw [hcl, hcl1]
      exact bq_updN _ K s (K (s + 1)) (fun x => x) rfl
    have e2 : upd nu (nI s).toNatClampNeg (nu (nI s + 1).toNatClampNeg) = bq_up nu s (nu (s + 1)) := by rw [hcl, hcl1]; rfl
    have e3 : upd co (nI s).toNatClampNeg (co (nI s + 1).toNatClampNeg) = bq_up co s (co (s + 1)) := by rw [hcl, hcl1]; rfl
    have e4 : upd mk (nI s).toNatClampNeg (vp_nar .boolean (mk (nI s + 1).toNatClampNeg)) = bq_up mk s (mk (s + 1)) := by rw [hcl, hcl1, hm1]; rfl
    refine br_f hn ⟨hi1, hi, nm_r e1 ⟨hi1, hi, nm_r e2 ⟨hi1, hi, nm_r e3 ⟨hi1, hi, nm_r e4 (nm_r (nI_1 s) (ih (s + 1) _ _ _ _ (by omega) ?_ ?_))⟩⟩⟩⟩
    · intro i hi
      unfold bq_up
      by_cases e : i = s
      · rw [if_pos e]
        exact hm _ (by omega)
      · rw [if_neg e]
        exact hm _ hi
    · rw [bq_shs (by omega), bq_shs (by omega), bq_shs (by omega), bq_shs (by omega)]
      exact hp
theorem bx_take {post : SX → Prop} {s : Nat} (hc : c ≤ 24) (hs : s < c) (hm : ∀ i, i < c → mk i = 0 ∨ mk i = 1) (h : post (bq_x b l (c - 1) nx (bq_sh s c K) (bq_sh s c nu) (bq_sh s c co) (bq_sh s c mk) U S w)) : wpX_takeAway post (bq_x b l c nx K nu co mk U S w) (nI s) :=
  ⟨c - (s + 1) + 1, bx_take_l hc _ s K nu co mk (by omega) hm h⟩
theorem by_take_l {post : SY → Prop} (hc : c ≤ 24) : ∀ d s (K : Nat → Nat) (nu co ob : Nat → Int32), s + 1 + d = c → (∀ i, i < c → ob i = 0 ∨ ob i = 1) → post (bq_y b l (c - 1) nx (bq_sh s c K) (bq_sh s c nu) (bq_sh s c co) (bq_sh s c ob) U S w) → wY_take_2 post (nI (bq_c b)) (nI l) (nI nx) (nI c) (d + 1) (nI s) nu (fun i => nI (bq_c (K i))) ob co (fun i => nI (bq_c (U i))) (bq_h S) w := by
  intro d
  induction d with
  | zero =>
    intro s K nu co ob hs hm hp
    simp only [bq_sh0 (show c ≤ s + 1 by omega)] at hp
    have e : nI c - 1 = nI (c - 1) := pk_sub (a := c) (b := 1) (by omega)
    refine br_t ?_ (nm_r e hp)
    rw [e]
    exact nI_le (by omega) (by omega)
  | succ d ih =>
    intro s K nu co ob hs hm hp
    have e : nI c - 1 = nI (c - 1) := pk_sub (a := c) (b := 1) (by omega)
    have hcl : (nI s).toNatClampNeg = s := nI_clamp (by omega)
    have hcl1 : (nI s + 1).toNatClampNeg = s + 1 := by rw [nI_1]; exact nI_clamp (by omega)
    have hi : vp_in (nI s) 24 := vp_in_nI (by omega) (by decide)
    have hi1 : vp_in (nI s + 1) 24 := by rw [nI_1]; exact vp_in_nI (by omega) (by decide)
    have hn : ¬ nI c - 1 ≤ nI s := by rw [e]; exact nI_ge (by omega) (by omega)
    have hm1 := bq_nar (hm (s + 1) (by omega))
    have e1 : upd (fun i => nI (bq_c (K i))) (nI s).toNatClampNeg ((fun i => nI (bq_c (K i))) (nI s + 1).toNatClampNeg) = fun i => nI (bq_c (bq_up K s (K (s + 1)) i)) := by
      rw [hcl, hcl1]
      exact bq_updN _ K s (K (s + 1)) bq_c rfl
    have e2 : upd nu (nI s).toNatClampNeg (nu (nI s + 1).toNatClampNeg) = bq_up nu s (nu (s + 1)) := by rw [hcl, hcl1]; rfl
    have e3 : upd co (nI s).toNatClampNeg (co (nI s + 1).toNatClampNeg) = bq_up co s (co (s + 1)) := by rw [hcl, hcl1]; rfl
    have e4 : upd ob (nI s).toNatClampNeg (vp_nar .boolean (ob (nI s + 1).toNatClampNeg)) = bq_up ob s (ob (s + 1)) := by rw [hcl, hcl1, hm1]; rfl
    refine br_f hn ⟨hi1, hi, nm_r e2 ⟨hi1, hi, nm_r e1 ⟨hi1, hi, nm_r e4 ⟨hi1, hi, nm_r e3 (nm_r (nI_1 s) (ih (s + 1) _ _ _ _ (by omega) ?_ ?_))⟩⟩⟩⟩
    · intro i hi
      unfold bq_up
      by_cases e : i = s
      · rw [if_pos e]
        exact hm _ (by omega)
      · rw [if_neg e]
        exact hm _ hi
    · rw [bq_shs (by omega), bq_shs (by omega), bq_shs (by omega), bq_shs (by omega)]
      exact hp
theorem by_take {post : SY → Prop} {s : Nat} (hc : c ≤ 24) (hs : s < c) (hm : ∀ i, i < c → ob i = 0 ∨ ob i = 1) (h : post (bq_y b l (c - 1) nx (bq_sh s c K) (bq_sh s c nu) (bq_sh s c co) (bq_sh s c ob) U S w)) : wpY_take post (bq_y b l c nx K nu co ob U S w) (nI s) :=
  ⟨c - (s + 1) + 1, by_take_l hc _ s K nu co ob (by omega) hm h⟩
theorem bz_takeC {s : Nat} (h : bq_C c K mk ob) (hs : s < c) : bq_C (c - 1) (bq_sh s c K) (bq_sh s c mk) (bq_sh s c ob) := by
  obtain ⟨h1, h2, h3, h4⟩ := h
  refine ⟨by omega, fun i => ?_, fun i hi => ?_, fun i hi => ?_⟩
  · unfold bq_sh
    split
    · exact h2 _
    · exact h2 _
  · unfold bq_sh
    split
    · exact h3 _ (by omega)
    · exact h3 _ (by omega)
  · unfold bq_sh
    by_cases e : s ≤ i ∧ i + 1 < c
    · rw [if_pos e, if_pos e]
      exact h4 _ (by omega)
    · rw [if_neg e, if_neg e]
      exact h4 _ (by omega)
theorem bz_mk (h : bq_C c K mk ob) (i : Nat) (hi : i < c) : mk i = 0 ∨ mk i = 1 := by
  rcases h.2.2.2 i hi with h | h
  · exact Or.inl h.1
  · exact Or.inr h.1
theorem bz_ob (h : bq_C c K mk ob) (i : Nat) (hi : i < c) : ob i = 0 ∨ ob i = 1 := by
  rcases h.2.2.2 i hi with h | h
  · exact Or.inr h.2
  · exact Or.inl h.2
/-! both: a version more -/
theorem bx_add1 {post : Int32 → SX → Prop} {q : Nat} {v m : Int32} (hc : c < 24) (hm : m = 0 ∨ m = 1) (h : post (nI nx) (bq_x b l (c + 1) (nx + 1) (bq_up K c q) (bq_up nu c (nI nx)) (bq_up co c v) (bq_up mk c m) U S w)) : wpX_addVersion post (bq_x b l c nx K nu co mk U S w) (nI q) v m := by
  have hcl : (nI c).toNatClampNeg = c := nI_clamp (by omega)
  have hi : vp_in (nI c) 24 := vp_in_nI hc (by decide)
  have e1 : upd (fun i => nI (K i)) (nI c).toNatClampNeg (nI q) = fun i => nI (bq_up K c q i) := by
    rw [hcl]
    exact bq_updN _ K c q (fun x => x) rfl
  have e2 : upd nu (nI c).toNatClampNeg (nI nx) = bq_up nu c (nI nx) := by rw [hcl]; rfl
  have e3 : upd co (nI c).toNatClampNeg v = bq_up co c v := by rw [hcl]; rfl
  have e4 : upd mk (nI c).toNatClampNeg (vp_nar .boolean m) = bq_up mk c m := by rw [hcl, bq_nar hm]; rfl
  exact br_t (nI_lt (b := 24) hc (by decide)) ⟨hi, nm_r e1 ⟨hi, nm_r e2 ⟨hi, nm_r e3 ⟨hi, nm_r e4 (nm_r (nI_1 c) (nm_r (nI_1 nx) h))⟩⟩⟩⟩
theorem bx_add0 {post : Int32 → SX → Prop} {q v m : Int32} (hc : c = 24) (h : post (-2) (bq_x b l c nx K nu co mk U S w)) : wpX_addVersion post (bq_x b l c nx K nu co mk U S w) q v m :=
  br_f (nI_nlt (b := 24) (by omega) (by omega)) h
theorem by_add1 {post : Int32 → SY → Prop} {q : Nat} {v m : Int32} (hc : c < 24) (hm : m = 0 ∨ m = 1) (h : post (nI nx) (bq_y b l (c + 1) (nx + 1) (bq_up K c q) (bq_up nu c (nI nx)) (bq_up co c v) (bq_up ob c m) U S w)) : wpY_make post (bq_y b l c nx K nu co ob U S w) (nI (bq_c q)) m v := by
  have hcl : (nI c).toNatClampNeg = c := nI_clamp (by omega)
  have hi : vp_in (nI c) 24 := vp_in_nI hc (by decide)
  have e1 : upd (fun i => nI (bq_c (K i))) (nI c).toNatClampNeg (nI (bq_c q)) = fun i => nI (bq_c (bq_up K c q i)) := by
    rw [hcl]
    exact bq_updN _ K c q bq_c rfl
  have e2 : upd nu (nI c).toNatClampNeg (nI nx) = bq_up nu c (nI nx) := by rw [hcl]; rfl
  have e3 : upd co (nI c).toNatClampNeg v = bq_up co c v := by rw [hcl]; rfl
  have e4 : upd ob (nI c).toNatClampNeg (vp_nar .boolean m) = bq_up ob c m := by rw [hcl, bq_nar hm]; rfl
  refine br_f (fun z => absurd (bq_ni (b := 24) (by omega) (by decide) z) (by omega)) ⟨hi, nm_r e2 ⟨hi, nm_r e1 ⟨hi, nm_r e4 ⟨hi, nm_r e3 (nm_r (nI_1 c) (nm_r (nI_1 nx) ?_))⟩⟩⟩⟩
  rw [nI_pred]
  exact h
theorem by_add0 {post : Int32 → SY → Prop} {q v m : Int32} (hc : c = 24) (h : post (-2) (bq_y b l c nx K nu co ob U S w)) : wpY_make post (bq_y b l c nx K nu co ob U S w) q m v :=
  br_t (congrArg nI hc) h
theorem bz_addC {q : Nat} {m o : Int32} (h : bq_C c K mk ob) (hc : c < 24) (hq : bq_V q) (h0 : q ≠ 0) (hm : (m = 0 ∧ o = 1) ∨ (m = 1 ∧ o = 0)) : bq_C (c + 1) (bq_up K c q) (bq_up mk c m) (bq_up ob c o) := by
  obtain ⟨h1, h2, h3, h4⟩ := h
  refine ⟨by omega, fun i => ?_, fun i hi => ?_, fun i hi => ?_⟩
  · unfold bq_up
    split
    · exact hq
    · exact h2 _
  · unfold bq_up
    by_cases e : i = c
    · rw [if_pos e]
      exact h0
    · rw [if_neg e]
      exact h3 _ (by omega)
  · unfold bq_up
    by_cases e : i = c
    · rw [if_pos e, if_pos e]
      exact hm
    · rw [if_neg e, if_neg e]
      exact h4 _ (by omega)
end
end
section
/-! type, erase, put, remove, destroy, get, present, content, versionAt -/
theorem i_vc_type {k : Nat} {u : SX} {v : SY} (I : i_Rel k u v) (hk : k + 4 ≤ 2048) (v1 : Int32) : wpX_type (fun r u' => wpY_type (fun r' v' => r' = r ∧ i_Rel (k + 4) u' v') v v1) u v1 := by
  have I0 := i_up I
  obtain ⟨b, l, c, nx, K, nu, co, mk, ob, U, S, w, rfl, rfl, hB, hC, hU, hx⟩ := I
  by_cases h0 : v1 < 0
  · exact br_t h0 (br_t h0 ⟨rfl, I0⟩)
  · by_cases h5 : v1 ≤ 5
    · obtain ⟨t, ht, rfl⟩ := nI_of2 (n := 5) (by decide) h0 h5
      have hl4 : l ≤ 4 := hB.2.1
      by_cases h4 : l < 4
      · refine br_f h0 (br_t h5 (br_t (nI_lt (b := 4) h4 (by decide)) ?_))
        obtain ⟨hB2, hc2, _, _⟩ := bq_typ (t := t) hB h4 (by omega)
        refine nm_r (bq_typX hB h4 (by omega)) (nm_r (nI_1 l) ?_)
        refine br_f h0 (br_t h5 (br_f (fun z => absurd (bq_ni (b := 4) (by omega) (by decide) z) (by omega)) ?_))
        have fin : ∀ p : Nat, p = 7 ^ l → (∀ x : Int32, x = nI (bq_c b) + (nI t + 1) * nI p → ∀ y : Int32, y = nI l + 1 → y = nI (l + 1) ∧ i_Rel (k + 4) (bq_x (b + (t + 1) * 2 ^ (9 - 3 * l)) (l + 1) c nx K nu co mk U S w) (x, y, nI nx, nI c, nu, (fun i => nI (bq_c (K i))), ob, co, (fun i => nI (bq_c (U i))), bq_h S, w)) := by
          intro p hp
          refine nm_r (?_ : _ = nI (bq_c (b + (t + 1) * 2 ^ (9 - 3 * l)))) (nm_r (nI_1 l) ⟨rfl, ?_⟩)
          · rw [nI_1, pk_mul, nI_add, hc2, hp]
          · exact ⟨_, _, c, nx, K, nu, co, mk, ob, U, S, w, rfl, rfl, hB2, hC, hU, by omega⟩
        obtain rfl | rfl | rfl | rfl : l = 0 ∨ l = 1 ∨ l = 2 ∨ l = 3 := by omega
        · exact br_t rfl (fin 1 rfl)
        · exact br_f (by decide +kernel) (br_t rfl (fin 7 rfl))
        · exact br_f (by decide +kernel) (br_f (by decide +kernel) (br_t rfl (fin 49 rfl)))
        · exact br_f (by decide +kernel) (br_f (by decide +kernel) (br_f (by decide +kernel) (br_t rfl (fin 343 rfl))))
      · obtain rfl : l = 4 := by omega
        exact br_f h0 (br_t h5 (br_f (by decide +kernel) (br_f h0 (br_t h5 (br_t rfl ⟨rfl, I0⟩)))))
    · exact br_f h0 (br_f h5 (br_f h0 (br_f h5 ⟨rfl, I0⟩)))
theorem i_vc_erase {k : Nat} {u : SX} {v : SY} (I : i_Rel k u v) (hk : k + 4 ≤ 2048) : wpX_erase (fun u' => wpY_erase (fun v' => i_Rel (k + 4) u' v') v) u := by
  obtain ⟨b, l, c, nx, K, nu, co, mk, ob, U, S, w, rfl, rfl, hB, hC, hU, hx⟩ := I
  refine ⟨0, 0, c, nx, K, nu, co, mk, ob, U, S, w, rfl, ?_, ⟨bq_V0, by decide, by decide, Or.inl rfl⟩, hC, hU, by omega⟩
  unfold bq_y
  rw [bq_c0]
  rfl
theorem bz_b0 {b l : Nat} (hB : bq_B b l) : b = 0 ↔ l = 0 := by
  obtain ⟨hV, hl, hf, hz⟩ := hB
  constructor
  · intro e
    omega
  · intro e
    subst e
    have hf : b / 4096 * 4096 = b := hf
    have := hV.1
    omega
theorem i_vc_put {k : Nat} {u : SX} {v : SY} (I : i_Rel k u v) (hk : k + 4 ≤ 2048) (v1 : Int32) : wpX_put (fun r u' => wpY_put (fun r' v' => r' = r ∧ i_Rel (k + 4) u' v') v v1) u v1 := by
  have I0 := i_up I
  obtain ⟨b, l, c, nx, K, nu, co, mk, ob, U, S, w, rfl, rfl, hB, hC, hU, hx⟩ := I
  have hl4 : l ≤ 4 := hB.2.1
  by_cases h0 : b = 0
  · have hl := (bz_b0 hB).mp h0
    exact br_t (congrArg nI h0) (br_t (congrArg nI hl) ⟨rfl, I0⟩)
  · have hl : l ≠ 0 := fun e => h0 ((bz_b0 hB).mpr e)
    refine br_f (nI_ne0 (by omega) (by have := hB.1.1; omega)) ?_
    have hlf : ¬ nI l = 0 := nI_ne0 (by omega) (by omega)
    by_cases h : c < 24
    · refine bx_add1 h (Or.inl rfl) ?_
      refine br_f hlf (by_add1 h (Or.inr rfl) ⟨rfl, ?_⟩)
      exact ⟨b, l, _, _, _, _, _, _, _, U, S, w, rfl, rfl, hB, bz_addC hC h hB.1 h0 (Or.inl ⟨rfl, rfl⟩), hU, by omega⟩
    · have hc := hC.1
      refine bx_add0 (by omega) ?_
      exact br_f hlf (by_add0 (by omega) ⟨rfl, I0⟩)
/-- whether a key is present, on both sides -/
theorem bz_pres {c q : Nat} {K : Nat → Nat} {mk ob : Nat → Int32} (hC : bq_C c K mk ob) : (∃ s, s < c ∧ K s = q ∧ bq_N K q c (s + 1) = 0 ∧ mk s = 0 ∧ ob s = 1) ∨ ((∀ s, s < c → K s = q → bq_N K q c (s + 1) = 0 → mk s ≠ 0) ∧ (∀ s, s < c → K s = q → bq_N K q c (s + 1) = 0 → ob s = 0)) := by
  by_cases h : ∃ s, s < c ∧ K s = q ∧ bq_N K q c (s + 1) = 0 ∧ mk s = 0 ∧ ob s = 1
  · exact Or.inl h
  · right
    constructor
    · intro s hs e hN hm
      rcases hC.2.2.2 s hs with h1 | h1
      · exact h ⟨s, hs, e, hN, h1⟩
      · rw [h1.1] at hm
        exact absurd hm (by decide)
    · intro s hs e hN
      rcases hC.2.2.2 s hs with h1 | h1
      · exact absurd ⟨s, hs, e, hN, h1⟩ h
      · exact h1.2
theorem i_vc_remove {k : Nat} {u : SX} {v : SY} (I : i_Rel k u v) (hk : k + 4 ≤ 2048) : wpX_remove (fun r u' => wpY_remove (fun r' v' => r' = r ∧ i_Rel (k + 4) u' v') v) u := by
  have I0 := i_up I
  obtain ⟨b, l, c, nx, K, nu, co, mk, ob, U, S, w, rfl, rfl, hB, hC, hU, hx⟩ := I
  have hl4 : l ≤ 4 := hB.2.1
  have hc := hC.1
  unfold wpX_remove
  dsimp only
  rcases bz_pres (q := b) hC with ⟨s, hs, e, hN, hm, ho⟩ | ⟨hm, ho⟩
  · have h0 : b ≠ 0 := by rw [← e]; exact hC.2.2.1 s hs
    have hl : l ≠ 0 := fun e => h0 ((bz_b0 hB).mpr e)
    have hlf : ¬ nI l = 0 := nI_ne0 (by omega) (by omega)
    refine bx_pr1 hc hC.2.1 hB.1 hs e hN hm ?_
    refine br_f (by decide) ?_
    by_cases h : c < 24
    · refine bx_add1 h (Or.inr rfl) ?_
      refine br_f hlf ?_
      refine by_pr1 hc hC.2.1 hB.1 hs e hN ho ?_
      refine br_f (by decide) (by_add1 h (Or.inl rfl) ⟨rfl, ?_⟩)
      exact ⟨b, l, _, _, _, _, _, _, _, U, S, w, rfl, rfl, hB, bz_addC hC h hB.1 h0 (Or.inr ⟨rfl, rfl⟩), hU, by omega⟩
    · refine bx_add0 (by omega) ?_
      refine br_f hlf ?_
      refine by_pr1 hc hC.2.1 hB.1 hs e hN ho ?_
      exact br_f (by decide) (by_add0 (by omega) ⟨rfl, I0⟩)
  · refine bx_pr0 hc hC.2.1 hB.1 hm ?_
    refine br_t rfl ?_
    by_cases hl : l = 0
    · exact br_t (congrArg nI hl) ⟨rfl, I0⟩
    · refine br_f (nI_ne0 (by omega) (by omega)) ?_
      refine by_pr0 hc hC.2.1 hB.1 ho ?_
      exact br_t rfl ⟨rfl, I0⟩
theorem i_vc_destroy {k : Nat} {u : SX} {v : SY} (I : i_Rel k u v) (hk : k + 4 ≤ 2048) (v1 : Int32) : wpX_destroy (fun r u' => wpY_destroy (fun r' v' => r' = r ∧ i_Rel (k + 4) u' v') v v1) u v1 := by
  have I0 := i_up I
  obtain ⟨b, l, c, nx, K, nu, co, mk, ob, U, S, w, rfl, rfl, hB, hC, hU, hx⟩ := I
  have hc := hC.1
  obtain ⟨r, hr, hX, hY⟩ := bz_find b l nx K U nu co mk ob S w hc v1
  unfold wpX_destroy
  dsimp only
  refine hX _ ?_
  rcases hr with rfl | ⟨s, hs, rfl⟩
  · refine br_t rfl ?_
    unfold wpY_destroy
    dsimp only
    refine hY _ ?_
    exact br_f (by decide) ⟨rfl, I0⟩
  · refine br_f (bq_nm1 (by omega)) ?_
    refine bx_take hc hs (bz_mk hC) ?_
    dsimp only
    unfold wpY_destroy
    dsimp only
    refine hY _ ?_
    refine br_t (nI_pos' (by omega)) ?_
    refine by_take hc hs (bz_ob hC) ?_
    exact ⟨rfl, b, l, _, nx, _, _, _, _, _, U, S, w, rfl, rfl, hB, bz_takeC hC hs, hU, by omega⟩
theorem i_vc_get {k : Nat} {u : SX} {v : SY} (I : i_Rel k u v) (hk : k + 4 ≤ 2048) : wpX_get (fun r => wpY_get (fun r' => r' = r ∧ i_Rel (k + 4) u v) v) u := by
  have I0 := i_up I
  obtain ⟨b, l, c, nx, K, nu, co, mk, ob, U, S, w, rfl, rfl, hB, hC, hU, hx⟩ := I
  have hc := hC.1
  unfold wpX_get wpY_get
  dsimp only
  rcases bz_pres (q := b) hC with ⟨s, hs, e, hN, hm, ho⟩ | ⟨hm, ho⟩
  · refine bx_cur1 hc hC.2.1 hB.1 hs e hN hm ?_
    refine br_f (bq_nm1 (by omega)) ⟨vp_in_nI (by omega) (by decide), ?_⟩
    refine by_new1 hc hC.2.1 hB.1 hs e hN ?_
    exact br_f (nI_pos (by omega)) ⟨vp_in_nI (by omega) (by decide), br_f (fun z => absurd (((congrArg ob (nI_clamp (by omega))).trans ho).symm.trans z) (by decide)) ⟨vp_in_nI (by omega) (by decide), rfl, I0⟩⟩
  · refine bx_cur0 hc hC.2.1 hB.1 hm ?_
    refine br_t rfl ?_
    by_cases hx : ∃ s, s < c ∧ K s = b ∧ bq_N K b c (s + 1) = 0
    · obtain ⟨s, hs, e, hN⟩ := hx
      refine by_new1 hc hC.2.1 hB.1 hs e hN ?_
      exact br_f (nI_pos (by omega)) ⟨vp_in_nI (by omega) (by decide), br_t ((congrArg ob (nI_clamp (by omega))).trans (ho s hs e hN)) ⟨rfl, I0⟩⟩
    · refine by_new0 hc hC.2.1 hB.1 (fun s hs e => hx (bq_newest hs e)) ?_
      exact br_t (by decide) ⟨rfl, I0⟩
theorem i_vc_present {k : Nat} {u : SX} {v : SY} (I : i_Rel k u v) (hk : k + 4 ≤ 2048) : wpX_present (fun r => wpY_present (fun r' => r' = r ∧ i_Rel (k + 4) u v) v) u := by
  have I0 := i_up I
  obtain ⟨b, l, c, nx, K, nu, co, mk, ob, U, S, w, rfl, rfl, hB, hC, hU, hx⟩ := I
  have hc := hC.1
  unfold wpX_present wpY_present
  dsimp only
  rcases bz_pres (q := b) hC with ⟨s, hs, e, hN, hm, ho⟩ | ⟨hm, ho⟩
  · refine bx_pr1 hc hC.2.1 hB.1 hs e hN hm ⟨rfl, ?_⟩
    refine by_pr1 hc hC.2.1 hB.1 hs e hN ho ⟨rfl, rfl, I0⟩
  · refine bx_pr0 hc hC.2.1 hB.1 hm ⟨rfl, ?_⟩
    refine by_pr0 hc hC.2.1 hB.1 ho ⟨rfl, rfl, I0⟩
theorem i_vc_content {k : Nat} {u : SX} {v : SY} (I : i_Rel k u v) (hk : k + 4 ≤ 2048) (v1 : Int32) : wpX_content (fun r => wpY_content (fun r' => r' = r ∧ i_Rel (k + 4) u v) v v1) u v1 := by
  have I0 := i_up I
  obtain ⟨b, l, c, nx, K, nu, co, mk, ob, U, S, w, rfl, rfl, hB, hC, hU, hx⟩ := I
  have hc := hC.1
  obtain ⟨r, hr, hX, hY⟩ := bz_find b l nx K U nu co mk ob S w hc v1
  unfold wpX_content wpY_content
  dsimp only
  refine hX _ ?_
  rcases hr with rfl | ⟨s, hs, rfl⟩
  · refine br_t rfl ?_
    refine hY _ ?_
    exact br_t (by decide) ⟨rfl, I0⟩
  · have hi : vp_in (nI s) 24 := vp_in_nI (by omega) (by decide)
    have hcl : (nI s).toNatClampNeg = s := nI_clamp (by omega)
    refine br_f (bq_nm1 (by omega)) ⟨hi, ?_⟩
    rcases hC.2.2.2 s hs with ⟨hm, ho⟩ | ⟨hm, ho⟩
    · refine br_t ((congrArg mk hcl).trans hm) ⟨hi, ?_⟩
      refine hY _ ?_
      exact br_f (nI_pos (by omega)) ⟨hi, br_f (fun z => absurd (((congrArg ob hcl).trans ho).symm.trans z) (by decide)) ⟨hi, rfl, I0⟩⟩
    · refine br_f (fun z => absurd (((congrArg mk hcl).trans hm).symm.trans z) (by decide)) ?_
      refine hY _ ?_
      exact br_f (nI_pos (by omega)) ⟨hi, br_t ((congrArg ob hcl).trans ho) ⟨rfl, I0⟩⟩
section
variable {b l c nx : Nat} {K U : Nat → Nat} {nu co mk ob S w : Nat → Int32}
theorem by_vat_l {post : Int32 → Prop} {i : Int32} (hc : c ≤ 24) (hV : ∀ j, bq_V (K j)) (hb : bq_V b) (h1 : (∀ s, s < c → K s = b → nI (bq_N K b c (s + 1)) ≠ i) → post (-7)) (h2 : ∀ s, s < c → K s = b → nI (bq_N K b c (s + 1)) = i → post (nu s)) : ∀ d j, j + d = c → (∀ s, s < j → K s = b → nI (bq_N K b c (s + 1)) ≠ i) → wY_versionAt_2 post i (nI (bq_c b)) (nI l) (nI nx) (nI c) nu (fun i => nI (bq_c (K i))) ob co (fun i => nI (bq_c (U i))) (bq_h S) w (d + 1) (nI j) := by
  intro d
  induction d with
  | zero =>
    intro j hj hn
    obtain rfl : j = c := by omega
    exact br_t (nI_le (by omega) (by omega)) (h1 hn)
  | succ d ih =>
    intro j hj hn
    have hcl : (nI j).toNatClampNeg = j := nI_clamp (by omega)
    have hi : vp_in (nI j) 24 := vp_in_nI (by omega) (by decide)
    refine br_f (nI_ge (by omega) (by omega)) ⟨hi, ?_⟩
    refine pk_eq (bq_c (K j)) (bq_c b) (fun e => ?_) (fun e => ?_) (congrArg (fun j => nI (bq_c (K j))) hcl) rfl (by have := bq_lt (hV j); omega) (by have := bq_lt hb; omega)
    · have e2 := bq_inj (hV j) hb e
      refine by_newer hc hV (by omega) ?_
      rw [e2]
      refine br_c (fun hz => ⟨hi, ?_⟩) (fun hz => nm_r (nI_1 j) (ih _ (by omega) (fun s hs es => ?_)))
      · rw [hcl]
        exact h2 j (by omega) e2 hz
      · by_cases e3 : s = j
        · subst e3
          exact hz
        · exact hn s (by omega) es
    · refine nm_r (nI_1 j) (ih _ (by omega) (fun s hs es => ?_))
      by_cases e3 : s = j
      · subst e3
        exact absurd (congrArg bq_c es) e
      · exact hn s (by omega) es
end
theorem i_vc_versionAt {k : Nat} {u : SX} {v : SY} (I : i_Rel k u v) (hk : k + 4 ≤ 2048) (v1 : Int32) : wpX_versionAt (fun r => wpY_versionAt (fun r' => r' = r ∧ i_Rel (k + 4) u v) v v1) u v1 := by
  have I0 := i_up I
  obtain ⟨b, l, c, nx, K, nu, co, mk, ob, U, S, w, rfl, rfl, hB, hC, hU, hx⟩ := I
  have hc := hC.1
  unfold wpX_versionAt wpY_versionAt
  dsimp only
  refine bx_slot hc hC.2.1 hB.1 (fun hn => ?_) (fun s hs e hN => ?_)
  · refine br_t rfl ⟨c + 1, by_vat_l hc hC.2.1 hB.1 (fun _ => ⟨rfl, I0⟩) (fun t ht et hN' => absurd hN' (hn t ht et)) c 0 (by omega) (fun s hs => absurd hs (by omega))⟩
  · have hcl : (nI s).toNatClampNeg = s := nI_clamp (by omega)
    refine br_f (bq_nm1 (by omega)) ⟨vp_in_nI (by omega) (by decide), c + 1, by_vat_l hc hC.2.1 hB.1 (fun hn => absurd hN (hn s hs e)) (fun t ht et hN' => ⟨?_, I0⟩) c 0 (by omega) (fun s hs => absurd hs (by omega))⟩
    have b1 := bq_Nc (K := K) (q := b) (c := c) (s := t + 1)
    have b2 := bq_Nc (K := K) (q := b) (c := c) (s := s + 1)
    cases bq_un hs e ht et (bq_ni (by omega) (by omega) (hN.trans hN'.symm))
    rw [hcl]
end
section
/-! begin, part, complete, abort -/
section
variable {b l c nx : Nat} {K U : Nat → Nat} {nu co mk ob S w : Nat → Int32}
theorem bq_idx (j i : Nat) : nI j * 8 + nI i = nI (j * 8 + i) := by
  show nI j * nI 8 + nI i = _
  rw [pk_mul, nI_add]
theorem bq_c0n : (0 : Int32) = nI (bq_c 0) := by rw [bq_c0]; rfl
theorem bq_cz {p : Nat} (h : bq_V p) : nI (bq_c p) = 0 ↔ p = 0 := by
  constructor
  · intro e
    have := bq_lt h
    have e2 := bq_ni (a := bq_c p) (b := 0) (by omega) (by decide) e
    by_cases z : p = 0
    · exact z
    · have := bq_pos h z
      omega
  · intro e
    rw [e]
    exact bq_c0n.symm
theorem bq_pz {p : Nat} (h : bq_V p) : nI p = 0 ↔ p = 0 := by
  have := h.1
  constructor
  · intro e
    exact bq_ni (b := 0) (by omega) (by decide) e
  · intro e
    rw [e]
    rfl
/-- the parts of upload j taken away up to i -/
def bq_hi (S : Nat → Int32) (j i : Nat) : Nat → Int32 := fun n => if j * 8 ≤ n ∧ n < j * 8 + i then 0 else bq_h S n
theorem bq_hi0 (j : Nat) : bq_hi S j 0 = bq_h S := by
  funext n
  unfold bq_hi
  rw [if_neg (by omega)]
theorem bq_hi8 (j : Nat) : bq_hi S j 8 = bq_h (bq_up S j 0) := by
  funext n
  unfold bq_hi bq_h bq_up
  by_cases e : n / 8 = j
  · rw [if_pos (by omega), if_pos e, b_0]
    rfl
  · rw [if_neg (by omega), if_neg e]
theorem bq_hi1 (j i : Nat) : upd (bq_hi S j i) (j * 8 + i) 0 = bq_hi S j (i + 1) := by
  funext n
  unfold upd bq_hi
  by_cases e : n = j * 8 + i
  · rw [if_pos e, if_pos (by omega)]
  · rw [if_neg e]
    by_cases h : j * 8 ≤ n ∧ n < j * 8 + i
    · rw [if_pos h, if_pos (by omega)]
    · rw [if_neg h, if_neg (by omega)]
theorem by_beg_h {post : Int32 → SY → Prop} {j : Nat} {up : Nat → Int32} (hj : j < 3) (h : post (nI j) (nI (bq_c b), nI l, nI nx, nI c, nu, (fun i => nI (bq_c (K i))), ob, co, up, bq_hi S j 8, w)) : ∀ d i, i + d = 8 → wY_begin_38 post (nI j) (nI (bq_c b)) (nI l) (nI nx) (nI c) (d + 1) (nI i) nu (fun i => nI (bq_c (K i))) ob co up (bq_hi S j i) w := by
  intro d
  induction d with
  | zero =>
    intro i hi
    obtain rfl : i = 8 := by omega
    exact br_t (nI_le (a := 8) (b := 8) (by decide) (by decide)) h
  | succ d ih =>
    intro i hi
    refine br_f (nI_ge (b := 8) (by omega) (by decide)) ⟨?_, nm_r (?_ : _ = bq_hi S j (i + 1)) (nm_r (nI_1 i) (ih _ (by omega)))⟩
    · rw [bq_idx]
      exact vp_in_nI (by omega) (by decide)
    · rw [bq_idx, nI_clamp (by omega), bq_nar (Or.inl rfl)]
      exact bq_hi1 j i
theorem bx_beg_l {post : Int32 → SX → Prop} (hU : ∀ i, bq_V (U i)) (h1 : (∀ t, t < 3 → U t ≠ 0) → post (-2) (bq_x b l c nx K nu co mk U S w)) (h2 : ∀ j, j < 3 → U j = 0 → (∀ t, t < j → U t ≠ 0) → post (nI j) (bq_x b l c nx K nu co mk (bq_up U j b) (bq_up S j 0) w)) : ∀ d j, j + d = 3 → (∀ t, t < j → U t ≠ 0) → wX_begin_12 post (nI b) (nI l) (nI c) (nI nx) (fun i => nI (K i)) nu co mk (fun i => nI (U i)) S w (d + 1) (nI j) := by
  intro d
  induction d with
  | zero =>
    intro j hj hn
    obtain rfl : j = 3 := by omega
    exact br_t (nI_le (a := 3) (b := 3) (by decide) (by decide)) (h1 hn)
  | succ d ih =>
    intro j hj hn
    have hcl : (nI j).toNatClampNeg = j := nI_clamp (by omega)
    have hi : vp_in (nI j) 3 := vp_in_nI (by omega) (by decide)
    have hk : (fun i => nI (U i)) (nI j).toNatClampNeg = nI (U j) := congrArg (fun i => nI (U i)) hcl
    refine br_f (nI_ge (b := 3) (by omega) (by decide)) ⟨hi, ?_⟩
    by_cases z : U j = 0
    · refine br_t (hk.trans ((bq_pz (hU j)).mpr z)) ⟨hi, nm_r (?_ : _ = fun i => nI (bq_up U j b i)) ⟨hi, nm_r (?_ : _ = bq_up S j 0) (h2 j (by omega) z hn)⟩⟩
      · rw [hcl]
        exact bq_updN _ U j b (fun x => x) rfl
      · rw [hcl]
        rfl
    · refine br_f (fun y => z ((bq_pz (hU j)).mp (hk.symm.trans y))) (nm_r (nI_1 j) (ih _ (by omega) (fun t ht => ?_)))
      by_cases e : t = j
      · subst e
        exact z
      · exact hn t (by omega)
theorem by_beg_l {post : Int32 → SY → Prop} (hU : ∀ i, bq_V (U i)) (h1 : (∀ t, t < 3 → U t ≠ 0) → post (-2) (bq_y b l c nx K nu co ob U S w)) (h2 : ∀ j, j < 3 → U j = 0 → (∀ t, t < j → U t ≠ 0) → post (nI j) (bq_y b l c nx K nu co ob (bq_up U j b) (bq_up S j 0) w)) : ∀ d j, j + d = 3 → (∀ t, t < j → U t ≠ 0) → wY_begin_12 post (nI (bq_c b)) (nI l) (nI nx) (nI c) nu (fun i => nI (bq_c (K i))) ob co (fun i => nI (bq_c (U i))) (bq_h S) w (d + 1) (nI j) := by
  intro d
  induction d with
  | zero =>
    intro j hj hn
    obtain rfl : j = 3 := by omega
    exact br_t (nI_le (a := 3) (b := 3) (by decide) (by decide)) (h1 hn)
  | succ d ih =>
    intro j hj hn
    have hcl : (nI j).toNatClampNeg = j := nI_clamp (by omega)
    have hi : vp_in (nI j) 3 := vp_in_nI (by omega) (by decide)
    have hk : (fun i => nI (bq_c (U i))) (nI j).toNatClampNeg = nI (bq_c (U j)) := congrArg (fun i => nI (bq_c (U i))) hcl
    refine br_f (nI_ge (b := 3) (by omega) (by decide)) ⟨hi, ?_⟩
    by_cases z : U j = 0
    · refine br_t (hk.trans ((bq_cz (hU j)).mpr z)) ⟨hi, nm_r (?_ : _ = fun i => nI (bq_c (bq_up U j b i))) ?_⟩
      · rw [hcl]
        exact bq_updN _ U j b bq_c rfl
      · have h3 := by_beg_h (S := S) (post := post) (b := b) (l := l) (c := c) (nx := nx) (K := K) (nu := nu) (co := co) (ob := ob) (w := w) (up := fun i => nI (bq_c (bq_up U j b i))) (j := j) (by omega) (by rw [bq_hi8]; exact h2 j (by omega) z hn) 8 0 (by omega)
        rw [bq_hi0] at h3
        exact ⟨_, h3⟩
    · refine br_f (fun y => z ((bq_cz (hU j)).mp (hk.symm.trans y))) (nm_r (nI_1 j) (ih _ (by omega) (fun t ht => ?_)))
      by_cases e : t = j
      · subst e
        exact z
      · exact hn t (by omega)
theorem bz_upV {j q : Nat} (hU : ∀ i, bq_V (U i)) (hq : bq_V q) (i : Nat) : bq_V (bq_up U j q i) := by
  unfold bq_up
  split
  · exact hq
  · exact hU i
/-- an upload that is under way, or none -/
theorem bz_up (b l c nx : Nat) (K : Nat → Nat) (nu co mk ob S w : Nat → Int32) (hU : ∀ i, bq_V (U i)) (v1 : Int32) : ((∀ post : Int32 → Prop, post 0 → wpX_isUnderWay post (bq_x b l c nx K nu co mk U S w) v1) ∧ (∀ post : Int32 → Prop, post 1 → wpY_noUpload post (bq_y b l c nx K nu co ob U S w) v1)) ∨ (∃ j, j < 3 ∧ v1 = nI j ∧ U j ≠ 0 ∧ (∀ post : Int32 → Prop, post 1 → wpX_isUnderWay post (bq_x b l c nx K nu co mk U S w) v1) ∧ (∀ post : Int32 → Prop, post 0 → wpY_noUpload post (bq_y b l c nx K nu co ob U S w) v1)) := by
  rcases pk_ix v1 (n := 3) (by decide) with h0 | h3 | ⟨j, hj, rfl⟩
  · exact Or.inl ⟨fun _ hp => br_t h0 hp, fun _ hp => br_t h0 hp⟩
  · have h0 : ¬ v1 < 0 := fun z => absurd (Int32.lt_of_le_of_lt h3 z) (by decide)
    have h2 : 2 < v1 := Int32.lt_of_lt_of_le (by decide : (2 : Int32) < nI 3) h3
    exact Or.inl ⟨fun _ hp => br_f h0 (br_t h3 hp), fun _ hp => br_f h0 (br_t h2 hp)⟩
  · have hcl : (nI j).toNatClampNeg = j := nI_clamp (by omega)
    have hi : vp_in (nI j) 3 := vp_in_nI (by omega) (by decide)
    have hk : (fun i => nI (U i)) (nI j).toNatClampNeg = nI (U j) := congrArg (fun i => nI (U i)) hcl
    have hky : (fun i => nI (bq_c (U i))) (nI j).toNatClampNeg = nI (bq_c (U j)) := congrArg (fun i => nI (bq_c (U i))) hcl
    have h0 : ¬ nI j < 0 := nI_pos (by omega)
    have h3 : ¬ (3 : Int32) ≤ nI j := nI_ge (b := 3) hj (by decide)
    have h2 : ¬ (2 : Int32) < nI j := nI_nlt (a := 2) (b := j) (by omega) (by decide)
    by_cases z : U j = 0
    · exact Or.inl ⟨fun _ hp => br_f h0 (br_f h3 ⟨hi, br_t (hk.trans ((bq_pz (hU j)).mpr z)) hp⟩), fun _ hp => br_f h0 (br_f h2 ⟨hi, br_t (hky.trans ((bq_cz (hU j)).mpr z)) hp⟩)⟩
    · exact Or.inr ⟨j, hj, rfl, z, fun _ hp => br_f h0 (br_f h3 ⟨hi, br_f (fun y => z ((bq_pz (hU j)).mp (hk.symm.trans y))) hp⟩), fun _ hp => br_f h0 (br_f h2 ⟨hi, br_f (fun y => z ((bq_cz (hU j)).mp (hky.symm.trans y))) hp⟩)⟩
theorem bq_has {j i : Nat} (hj : j < 3) (hi : i < 8) : bq_h S (nI j * 8 + nI i).toNatClampNeg = if bt (S j) i then 1 else 0 := by
  rw [bq_idx, nI_clamp (by omega)]
  unfold bq_h
  rw [show (j * 8 + i) / 8 = j by omega, show (j * 8 + i) % 8 = i by omega]
theorem bq_hasI {j i : Nat} (hj : j < 3) (hi : i < 8) : vp_in (nI j * 8 + nI i) 24 := by
  rw [bq_idx]
  exact vp_in_nI (by omega) (by decide)
theorem bz_cnt_l {j : Nat} (hj : j < 3) : ∀ d i (a : Int32), i + d = 8 → ∃ r : Int32, (∀ post : Int32 → Prop, post r → wX_partCount_4 post (nI j) (nI b) (nI l) (nI c) (nI nx) (fun i => nI (K i)) nu co mk (fun i => nI (U i)) S w (d + 1) a (nI i)) ∧ (∀ post : Int32 → Prop, post r → wY_parts_4 post (nI j) (nI (bq_c b)) (nI l) (nI nx) (nI c) nu (fun i => nI (bq_c (K i))) ob co (fun i => nI (bq_c (U i))) (bq_h S) w (d + 1) a (nI i)) := by
  intro d
  induction d with
  | zero =>
    intro i a hi
    have h : (8 : Int32) ≤ nI i := nI_le (a := 8) (by omega) (by omega)
    exact ⟨a, fun _ hp => br_t h hp, fun _ hp => br_t h hp⟩
  | succ d ih =>
    intro i a hi
    have h : ¬ (8 : Int32) ≤ nI i := nI_ge (b := 8) (by omega) (by decide)
    have hj3 : vp_in (nI j) 3 := vp_in_nI hj (by decide)
    have hcl : (nI j).toNatClampNeg = j := nI_clamp (by omega)
    have hb := bq_bit (S j) (i := i) (by omega)
    have hh := bq_has (S := S) hj (show i < 8 by omega)
    have hix := bq_hasI hj (show i < 8 by omega)
    cases e : bt (S j) i with
    | true =>
      rw [e] at hb hh
      obtain ⟨r, hX, hY⟩ := ih (i + 1) (a + 1) (by omega)
      refine ⟨r, fun post hp => br_f h ⟨hj3, nm_r ?_ (nm_r (nI_1 i) (hX post hp))⟩, fun post hp => br_f h ⟨hix, br_f (fun z => absurd (hh.symm.trans z) (by decide)) (nm_e (nm_r (nI_1 i) (hY post hp)))⟩⟩
      rw [hcl, hb]
      rfl
    | false =>
      rw [e] at hb hh
      obtain ⟨r, hX, hY⟩ := ih (i + 1) a (by omega)
      refine ⟨r, fun post hp => br_f h ⟨hj3, nm_r ?_ (nm_r (nI_1 i) (hX post hp))⟩, fun post hp => br_f h ⟨hix, br_t hh (nm_r (nI_1 i) (hY post hp))⟩⟩
      rw [hcl, hb]
      exact Int32.add_zero a
theorem bz_cnt (b l c nx : Nat) (K U : Nat → Nat) (nu co mk ob S w : Nat → Int32) {j : Nat} (hj : j < 3) : ∃ r : Int32, (∀ post : Int32 → Prop, post r → wpX_partCount post (bq_x b l c nx K nu co mk U S w) (nI j)) ∧ (∀ post : Int32 → Prop, post r → wpY_parts post (bq_y b l c nx K nu co ob U S w) (nI j)) := by
  obtain ⟨r, hX, hY⟩ := bz_cnt_l (b := b) (l := l) (c := c) (nx := nx) (K := K) (U := U) (nu := nu) (co := co) (mk := mk) (ob := ob) (S := S) (w := w) hj 8 0 0 (by omega)
  exact ⟨r, fun post hp => ⟨_, hX post hp⟩, fun post hp => ⟨_, hY post hp⟩⟩
theorem bq_hset {j n : Nat} (hn : n < 8) : upd (bq_h S) (j * 8 + n) 1 = bq_h (bq_up S j (S j ||| ((1 : Int32) <<< (nI n &&& 31)))) := by
  funext m
  unfold upd bq_h bq_up
  by_cases e : m / 8 = j
  · subst e
    rw [if_pos rfl, bq_set _ hn (by omega)]
    by_cases e2 : m = m / 8 * 8 + n
    · rw [if_pos e2, decide_eq_true (show m % 8 = n by omega), Bool.or_true]
      rfl
    · rw [if_neg e2, decide_eq_false (show ¬ m % 8 = n by omega), Bool.or_false]
  · rw [if_neg e, if_neg (by omega)]
/-! complete -/
theorem by_bad_l {post : Int32 → SY → Prop} {j : Nat} {p : Int32} (hj : j < 3) (h : post (-6) (bq_y b l c nx K nu co ob U S w)) : ∀ d i (a : Int32), i + d = 8 → (∃ t, i ≤ t ∧ t < 8 ∧ bt p t = true ∧ bt (S j) t = false) → wY_complete_27 post (nI j) p (nI (bq_c b)) (nI l) (nI nx) (nI c) nu (fun i => nI (bq_c (K i))) ob co (fun i => nI (bq_c (U i))) (bq_h S) w (d + 1) a (nI i) := by
  intro d
  induction d with
  | zero =>
    intro i a hi ht
    obtain ⟨t, h1, h2, _⟩ := ht
    omega
  | succ d ih =>
    intro i a hi ht
    have h8 : ¬ (8 : Int32) ≤ nI i := nI_ge (b := 8) (by omega) (by decide)
    have hb := bq_bit p (i := i) (by omega)
    have hh := bq_has (S := S) hj (show i < 8 by omega)
    have hix := bq_hasI hj (show i < 8 by omega)
    obtain ⟨t, h1, h2, h3, h4⟩ := ht
    cases e : bt p i with
    | true =>
      rw [e] at hb
      cases e2 : bt (S j) i with
      | true =>
        rw [e2] at hh
        refine br_f h8 (br_t hb ⟨hix, br_f (fun z => absurd (hh.symm.trans z) (by decide)) ⟨hix, nm_e (nm_r (nI_1 i) (ih _ _ (by omega) ⟨t, ?_, h2, h3, h4⟩))⟩⟩)
        by_cases e3 : t = i
        · subst e3
          rw [e2] at h4
          exact absurd h4 (by decide)
        · omega
      | false =>
        rw [e2] at hh
        exact br_f h8 (br_t hb ⟨hix, br_t hh h⟩)
    | false =>
      rw [e] at hb
      refine br_f h8 (br_f (fun z => absurd (hb.symm.trans z) (by decide)) (nm_r (nI_1 i) (ih _ _ (by omega) ⟨t, ?_, h2, h3, h4⟩)))
      by_cases e3 : t = i
      · subst e3
        rw [e] at h3
        exact absurd h3 (by decide)
      · omega
theorem bz_good_l {j : Nat} {p : Int32} (hj : j < 3) (hall : ∀ t, t < 8 → bt p t = true → bt (S j) t = true) : ∀ d i (a : Int32), i + d = 8 → ∃ r : Int32, (∀ post : Int32 → Prop, post r → wX_contentOfParts_5 post (nI j) (p &&& 255) (nI b) (nI l) (nI c) (nI nx) (fun i => nI (K i)) nu co mk (fun i => nI (U i)) S w (d + 1) a (nI i)) ∧ (∀ post : Int32 → SY → Prop, wY_complete_27 post (nI j) p (nI (bq_c b)) (nI l) (nI nx) (nI c) nu (fun i => nI (bq_c (K i))) ob co (fun i => nI (bq_c (U i))) (bq_h S) w 1 r (nI 8) → wY_complete_27 post (nI j) p (nI (bq_c b)) (nI l) (nI nx) (nI c) nu (fun i => nI (bq_c (K i))) ob co (fun i => nI (bq_c (U i))) (bq_h S) w (d + 1) a (nI i)) := by
  intro d
  induction d with
  | zero =>
    intro i a hi
    obtain rfl : i = 8 := by omega
    exact ⟨a, fun _ hp => br_t (nI_le (a := 8) (b := 8) (by decide) (by decide)) hp, fun _ hp => hp⟩
  | succ d ih =>
    intro i a hi
    have h8 : ¬ (8 : Int32) ≤ nI i := nI_ge (b := 8) (by omega) (by decide)
    have hb := bq_bit p (i := i) (by omega)
    have hb2 := bq_bit (p &&& 255) (i := i) (by omega)
    rw [bq_255 p (show i < 8 by omega)] at hb2
    have hh := bq_has (S := S) hj (show i < 8 by omega)
    have hix := bq_hasI hj (show i < 8 by omega)
    cases e : bt p i with
    | true =>
      rw [e] at hb hb2
      rw [hall i (by omega) e] at hh
      obtain ⟨r, hX, hY⟩ := ih (i + 1) (a * 31 + w (nI j * 8 + nI i).toNatClampNeg) (by omega)
      exact ⟨r, fun post hp => br_f h8 (br_f (fun z => absurd (hb2.symm.trans z) (by decide)) ⟨hix, nm_e (nm_r (nI_1 i) (hX post hp))⟩), fun post hp => br_f h8 (br_t hb ⟨hix, br_f (fun z => absurd (hh.symm.trans z) (by decide)) ⟨hix, nm_e (nm_r (nI_1 i) (hY post hp))⟩⟩)⟩
    | false =>
      rw [e] at hb hb2
      obtain ⟨r, hX, hY⟩ := ih (i + 1) a (by omega)
      exact ⟨r, fun post hp => br_f h8 (br_t hb2 (nm_r (nI_1 i) (hX post hp))), fun post hp => br_f h8 (br_f (fun z => absurd (hb.symm.trans z) (by decide)) (nm_r (nI_1 i) (hY post hp)))⟩
end
theorem i_vc_begin {k : Nat} {u : SX} {v : SY} (I : i_Rel k u v) (hk : k + 4 ≤ 2048) : wpX_begin (fun r u' => wpY_begin (fun r' v' => r' = r ∧ i_Rel (k + 4) u' v') v) u := by
  have I0 := i_up I
  obtain ⟨b, l, c, nx, K, nu, co, mk, ob, U, S, w, rfl, rfl, hB, hC, hU, hx⟩ := I
  have hl4 : l ≤ 4 := hB.2.1
  by_cases h0 : b = 0
  · have hl := (bz_b0 hB).mp h0
    exact br_t (congrArg nI h0) (br_t (congrArg nI hl) ⟨rfl, I0⟩)
  · have hl : l ≠ 0 := fun e => h0 ((bz_b0 hB).mpr e)
    have hlf : ¬ nI l = 0 := nI_ne0 (by omega) (by omega)
    refine br_f (nI_ne0 (by omega) (by have := hB.1.1; omega)) ⟨4, bx_beg_l hU (fun hn => ?_) (fun j hj z hn => ?_) 3 0 (by omega) (fun t ht => absurd ht (by omega))⟩
    · exact br_f hlf ⟨4, by_beg_l hU (fun _ => ⟨rfl, I0⟩) (fun j hj z _ => absurd z (hn j hj)) 3 0 (by omega) (fun t ht => absurd ht (by omega))⟩
    · refine br_f hlf ⟨4, by_beg_l hU (fun hn2 => absurd z (hn2 j hj)) (fun i hi z2 hn2 => ?_) 3 0 (by omega) (fun t ht => absurd ht (by omega))⟩
      obtain rfl : i = j := by
        rcases Nat.lt_trichotomy i j with h | h | h
        · exact absurd z2 (hn i h)
        · exact h
        · exact absurd z (hn2 j h)
      exact ⟨rfl, b, l, c, nx, K, nu, co, mk, ob, _, _, w, rfl, rfl, hB, hC, bz_upV hU hB.1, by omega⟩
theorem i_vc_part {k : Nat} {u : SX} {v : SY} (I : i_Rel k u v) (hk : k + 4 ≤ 2048) (v1 : Int32) (v2 : Int32) (v3 : Int32) : wpX_part (fun r u' => wpY_part (fun r' v' => r' = r ∧ i_Rel (k + 4) u' v') v v1 v2 v3) u v1 v2 v3 := by
  have I0 := i_up I
  obtain ⟨b, l, c, nx, K, nu, co, mk, ob, U, S, w, rfl, rfl, hB, hC, hU, hx⟩ := I
  unfold wpX_part wpY_part
  dsimp only
  rcases bz_up b l c nx K nu co mk ob S w hU v1 with ⟨hX, hY⟩ | ⟨j, hj, rfl, hn, hX, hY⟩
  · refine hX _ (br_t rfl (hY _ (br_f (by decide) ⟨rfl, I0⟩)))
  · refine hX _ (br_f (by decide) ?_)
    rcases pk_ix v2 (n := 8) (by decide) with h0 | h8 | ⟨n, hn8, rfl⟩
    · refine br_t h0 (hY _ (br_t rfl (br_t h0 ⟨rfl, I0⟩)))
    · have h0 : ¬ v2 < 0 := fun z => absurd (Int32.lt_of_le_of_lt h8 z) (by decide)
      have h9 : ¬ v2 < 8 := fun z => absurd (Int32.lt_of_le_of_lt h8 z) (by decide)
      have h7 : ¬ v2 ≤ 7 := fun z => absurd (Int32.le_trans h8 z) (by decide)
      exact br_f h0 (br_f h9 (hY _ (br_t rfl (br_f h0 (br_f h7 ⟨rfl, I0⟩)))))
    · have h0 : ¬ nI n < 0 := nI_pos (by omega)
      have h9 : nI n < 8 := nI_lt (b := 8) hn8 (by decide)
      have h7 : nI n ≤ 7 := nI_le (b := 7) (by omega) (by decide)
      have hix := bq_hasI hj hn8
      have hcl : (nI j).toNatClampNeg = j := nI_clamp (by omega)
      have hcl2 : (nI j * 8 + nI n).toNatClampNeg = j * 8 + n := by rw [bq_idx]; exact nI_clamp (by omega)
      have hj3 : vp_in (nI j) 3 := vp_in_nI hj (by decide)
      obtain ⟨r, cX, cY⟩ := bz_cnt b l c nx K U nu co mk ob (bq_up S j (S j ||| ((1 : Int32) <<< (nI n &&& 31)))) (bq_up w (j * 8 + n) v3) hj
      refine br_f h0 (br_t h9 ⟨hix, nm_r (?_ : _ = bq_up w (j * 8 + n) v3) ⟨hj3, hj3, nm_r (?_ : _ = bq_up S j (S j ||| ((1 : Int32) <<< (nI n &&& 31)))) ?_⟩⟩)
      · rw [hcl2]
        rfl
      · rw [hcl]
        rfl
      refine cX _ ?_
      refine hY _ (br_t rfl (br_f h0 (br_t h7 ⟨hix, nm_r (?_ : _ = bq_h (bq_up S j (S j ||| ((1 : Int32) <<< (nI n &&& 31))))) ⟨hix, nm_r (?_ : _ = bq_up w (j * 8 + n) v3) ?_⟩⟩)))
      · rw [hcl2, bq_nar (Or.inr rfl)]
        exact bq_hset hn8
      · rw [hcl2]
        rfl
      refine cY _ ?_
      exact ⟨rfl, b, l, c, nx, K, nu, co, mk, ob, U, _, _, rfl, rfl, hB, hC, hU, by omega⟩
theorem i_vc_complete {k : Nat} {u : SX} {v : SY} (I : i_Rel k u v) (hk : k + 4 ≤ 2048) (v1 : Int32) (v2 : Int32) : wpX_complete (fun r u' => wpY_complete (fun r' v' => r' = r ∧ i_Rel (k + 4) u' v') v v1 v2) u v1 v2 := by
  have I0 := i_up I
  obtain ⟨b, l, c, nx, K, nu, co, mk, ob, U, S, w, rfl, rfl, hB, hC, hU, hx⟩ := I
  have hc := hC.1
  unfold wpX_complete wpY_complete
  dsimp only
  rcases bz_up b l c nx K nu co mk ob S w hU v1 with ⟨hX, hY⟩ | ⟨j, hj, rfl, hn, hX, hY⟩
  · refine hX _ (br_t rfl (hY _ (br_f (by decide) ⟨rfl, I0⟩)))
  · have hcl : (nI j).toNatClampNeg = j := nI_clamp (by omega)
    have hj3 : vp_in (nI j) 3 := vp_in_nI hj (by decide)
    refine hX _ (br_f (by decide) (nm_e ⟨hj3, nm_e ?_⟩))
    simp only [hcl]
    by_cases hz : v2 &&& 255 = 0
    · exact br_t hz (hY _ (br_t rfl (br_t hz ⟨by trivial, I0⟩)))
    · refine br_f hz ?_
      by_cases hm : (v2 &&& 255) &&& (S j ^^^ (-1)) = 0
      · have hall := (bq_miss v2 (S j)).mp hm
        refine br_t hm ?_
        obtain ⟨r, cX, cY⟩ := bz_good_l (b := b) (l := l) (c := c) (nx := nx) (K := K) (U := U) (nu := nu) (co := co) (mk := mk) (ob := ob) (w := w) hj hall 8 0 0 (by omega)
        refine ⟨9, cX _ ⟨hj3, ?_⟩⟩
        have u0 : upd (fun i => nI (U i)) j 0 = fun i => nI (bq_up U j 0 i) := bq_updN _ U j 0 (fun x => x) rfl
        have u1 : upd (fun i => nI (bq_c (U i))) j 0 = fun i => nI (bq_c (bq_up U j 0 i)) := by
          rw [bq_c0n]
          exact bq_updN _ U j 0 bq_c rfl
        have h8 : (8 : Int32) ≤ nI 8 := nI_le (a := 8) (b := 8) (by decide) (by decide)
        have hky : (fun i => nI (bq_c (U i))) (nI j).toNatClampNeg = nI (bq_c (U j)) := congrArg (fun i => nI (bq_c (U i))) hcl
        by_cases h : c < 24
        · refine bx_add1 h (Or.inl rfl) ?_
          refine br_f (fun z => nI_pos (n := nx) (by omega) (by rw [z]; decide)) ⟨hj3, nm_r u0 ?_⟩
          refine hY _ (br_t rfl (br_f hz ⟨9, cY _ (br_t h8 ⟨hj3, ?_⟩)⟩))
          rw [hky]
          refine by_add1 h (Or.inr rfl) ?_
          refine br_f (nI_pos (by omega)) ⟨hj3, nm_r ((congrArg (fun z => upd (fun i => nI (bq_c (U i))) z 0) hcl).trans u1) ?_⟩
          exact ⟨rfl, b, l, _, _, _, _, _, _, _, _, S, w, rfl, rfl, hB, bz_addC hC h (hU j) hn (Or.inl ⟨rfl, rfl⟩), bz_upV hU bq_V0, by omega⟩
        · refine bx_add0 (by omega) ?_
          refine br_t rfl ?_
          refine hY _ (br_t rfl (br_f hz ⟨9, cY _ (br_t h8 ⟨hj3, ?_⟩)⟩))
          refine by_add0 (by omega) ?_
          exact br_t (by decide) ⟨rfl, I0⟩
      · refine br_f hm ?_
        have hex : ∃ t, 0 ≤ t ∧ t < 8 ∧ bt v2 t = true ∧ bt (S j) t = false := by
          by_cases h : ∃ t, 0 ≤ t ∧ t < 8 ∧ bt v2 t = true ∧ bt (S j) t = false
          · exact h
          · exfalso
            apply hm
            rw [bq_miss]
            intro i hi hb
            cases e : bt (S j) i with
            | true => rfl
            | false => exact absurd ⟨i, Nat.zero_le _, hi, hb, e⟩ h
        exact hY _ (br_t rfl (br_f hz ⟨9, by_bad_l hj ⟨rfl, I0⟩ 8 0 0 (by omega) hex⟩))
theorem i_vc_abort {k : Nat} {u : SX} {v : SY} (I : i_Rel k u v) (hk : k + 4 ≤ 2048) (v1 : Int32) : wpX_abort (fun r u' => wpY_abort (fun r' v' => r' = r ∧ i_Rel (k + 4) u' v') v v1) u v1 := by
  have I0 := i_up I
  obtain ⟨b, l, c, nx, K, nu, co, mk, ob, U, S, w, rfl, rfl, hB, hC, hU, hx⟩ := I
  unfold wpX_abort wpY_abort
  dsimp only
  rcases bz_up b l c nx K nu co mk ob S w hU v1 with ⟨hX, hY⟩ | ⟨j, hj, rfl, hn, hX, hY⟩
  · refine hX _ (br_t rfl (hY _ (br_f (by decide) ⟨rfl, I0⟩)))
  · have hcl : (nI j).toNatClampNeg = j := nI_clamp (by omega)
    have hj3 : vp_in (nI j) 3 := vp_in_nI hj (by decide)
    have u0 : upd (fun i => nI (U i)) j 0 = fun i => nI (bq_up U j 0 i) := bq_updN _ U j 0 (fun x => x) rfl
    have u1 : upd (fun i => nI (bq_c (U i))) j 0 = fun i => nI (bq_c (bq_up U j 0 i)) := by
      rw [bq_c0n]
      exact bq_updN _ U j 0 bq_c rfl
    obtain ⟨r, cX, cY⟩ := bz_cnt b l c nx K (bq_up U j 0) nu co mk ob S w hj
    refine hX _ (br_f (by decide) ⟨hj3, nm_r ((congrArg (fun z => upd (fun i => nI (U i)) z 0) hcl).trans u0) ?_⟩)
    refine cX _ ?_
    refine hY _ (br_t rfl ⟨hj3, nm_r ((congrArg (fun z => upd (fun i => nI (bq_c (U i))) z 0) hcl).trans u1) ?_⟩)
    refine cY _ ?_
    exact ⟨rfl, b, l, c, nx, K, nu, co, mk, ob, _, S, w, rfl, rfl, hB, hC, bz_upV hU bq_V0, by omega⟩
end
section
/-! expire -/
section
variable {b l nx : Nat} {U : Nat → Nat} {S w : Nat → Int32}
theorem bz_e1_l {m : Nat} (hm : m ≤ 24) : ∀ d c (K : Nat → Nat) (nu co mk ob : Nat → Int32), bq_C c K mk ob → d ≤ c → ∃ (c' : Nat) (K' : Nat → Nat) (nu' co' mk' ob' : Nat → Int32), bq_C c' K' mk' ob' ∧ (∀ post : SX → Prop, post (bq_x b l c' nx K' nu' co' mk' U S w) → ∀ x, x = nI d + (-1) → wX_takeAwayBehind_7 post (nI (m + 1)) (d + 1) x (nI b) (nI l) (nI c) (nI nx) (fun i => nI (K i)) nu co mk (fun i => nI (U i)) S w) ∧ (∀ (post : Int32 → SY → Prop) z, wY_expire_34 post z (nI m) 1 (nI 0 + (-1)) (nI (bq_c b)) (nI l) (nI nx) (nI c') nu' (fun i => nI (bq_c (K' i))) ob' co' (fun i => nI (bq_c (U i))) (bq_h S) w → ∀ x, x = nI d + (-1) → wY_expire_34 post z (nI m) (d + 1) x (nI (bq_c b)) (nI l) (nI nx) (nI c) nu (fun i => nI (bq_c (K i))) ob co (fun i => nI (bq_c (U i))) (bq_h S) w) := by
  intro d
  induction d with
  | zero =>
    intro c K nu co mk ob hC _
    refine ⟨c, K, nu, co, mk, ob, hC, fun post hp x hx => ?_, fun post z hp x hx => ?_⟩
    · subst hx
      exact br_t bq_z1 hp
    · subst hx
      exact hp
  | succ d ih =>
    intro c K nu co mk ob hC hd
    have hc := hC.1
    have hV := hC.2.1
    have hcl : (nI d).toNatClampNeg = d := nI_clamp (by omega)
    have hi : vp_in (nI d) 24 := vp_in_nI (by omega) (by decide)
    have h0 : ¬ nI d < 0 := nI_pos (by omega)
    have hk : (fun i => nI (K i)) (nI d).toNatClampNeg = nI (K d) := congrArg (fun i => nI (K i)) hcl
    have hb := bq_Nc (K := K) (q := K d) (c := c) (s := d + 1)
    have em : nI (m + 1) - 1 = nI m := nI_pred m
    by_cases h : bq_N K (K d) c (d + 1) ≤ m
    · obtain ⟨c', K', nu', co', mk', ob', hC', hX, hY⟩ := ih c K nu co mk ob hC (by omega)
      refine ⟨c', K', nu', co', mk', ob', hC', fun post hp x hx => ?_, fun post z hp x hx => ?_⟩
      · rw [pk_m1] at hx
        subst hx
        refine br_f h0 ⟨hi, ?_⟩
        rw [hk, em]
        refine bx_slot hc hV (hV d) (fun _ => ?_) (fun t ht et hN => ?_)
        · exact br_t (Int32.le_trans (by decide : (-1 : Int32) ≤ 0) (nI_pos' (by omega))) (hX post hp)
        · have hb2 := bq_Nc (K := K) (q := K d) (c := c) (s := t + 1)
          have hN2 := bq_ni (by omega) (by omega) hN
          refine br_t (nI_le ?_ (by omega)) (hX post hp)
          rcases Nat.lt_or_ge d t with h1 | h1
          · have := bq_Nlt2 (K := K) (q := K d) (c := c) h1 ht et
            omega
          · exact h1
      · rw [pk_m1] at hx
        subst hx
        refine br_f h0 ?_
        refine by_newer hc hV (by omega) ?_
        exact br_t (nI_le h (by omega)) (hY post z hp)
    · obtain ⟨t, t1, t2, t3, t4⟩ := bq_hit (K := K) (q := K d) (c := c) (c - (d + 1)) (d + 1) m (by omega) (by omega)
      obtain ⟨c', K', nu', co', mk', ob', hC', hX, hY⟩ := ih (c - 1) (bq_sh d c K) (bq_sh d c nu) (bq_sh d c co) (bq_sh d c mk) (bq_sh d c ob) (bz_takeC hC (by omega)) (by omega)
      refine ⟨c', K', nu', co', mk', ob', hC', fun post hp x hx => ?_, fun post z hp x hx => ?_⟩
      · rw [pk_m1] at hx
        subst hx
        refine br_f h0 ⟨hi, ?_⟩
        rw [hk, em]
        refine bx_slot1 hc hV (hV d) t2 t3 t4 ?_
        refine br_f (nI_ge (by omega) (by omega)) ?_
        refine bx_take hc (by omega) (bz_mk hC) ?_
        exact hX post hp
      · rw [pk_m1] at hx
        subst hx
        refine br_f h0 ?_
        refine by_newer hc hV (by omega) ?_
        refine br_f (nI_ge (by omega) (by omega)) ?_
        refine by_take hc (by omega) (bz_ob hC) ?_
        exact hY post z hp
theorem bz_e1 {m c : Nat} {K : Nat → Nat} {nu co mk ob : Nat → Int32} (hm : m ≤ 24) (hC : bq_C c K mk ob) : ∃ (c' : Nat) (K' : Nat → Nat) (nu' co' mk' ob' : Nat → Int32), bq_C c' K' mk' ob' ∧ (∀ post : SX → Prop, post (bq_x b l c' nx K' nu' co' mk' U S w) → wpX_takeAwayBehind post (bq_x b l c nx K nu co mk U S w) (nI (m + 1))) ∧ (∀ (post : Int32 → SY → Prop) z, wY_expire_34 post z (nI m) 1 (nI 0 + (-1)) (nI (bq_c b)) (nI l) (nI nx) (nI c') nu' (fun i => nI (bq_c (K' i))) ob' co' (fun i => nI (bq_c (U i))) (bq_h S) w → ∀ x, x = nI c - 1 → ∃ n, wY_expire_34 post z (nI m) n x (nI (bq_c b)) (nI l) (nI nx) (nI c) nu (fun i => nI (bq_c (K i))) ob co (fun i => nI (bq_c (U i))) (bq_h S) w) := by
  obtain ⟨c', K', nu', co', mk', ob', hC', hX, hY⟩ := bz_e1_l (b := b) (l := l) (nx := nx) (U := U) (S := S) (w := w) hm c c K nu co mk ob hC (Nat.le_refl c)
  refine ⟨c', K', nu', co', mk', ob', hC', fun post hp => ?_, fun post z hp x hx => ⟨c + 1, hY post z hp x (hx.trans (bq_s1 c))⟩⟩
  show ∀ x2 : Int32, x2 = nI c - 1 → ∃ n, wX_takeAwayBehind_7 post (nI (m + 1)) n x2 (nI b) (nI l) (nI c) (nI nx) (fun i => nI (K i)) nu co mk (fun i => nI (U i)) S w
  exact fun x hx => ⟨c + 1, hX post hp x (hx.trans (bq_s1 c))⟩
theorem bx_lone1 {post : Int32 → Prop} {c q : Nat} {K : Nat → Nat} {nu co mk : Nat → Int32} (hc : c ≤ 24) (hV : ∀ j, bq_V (K j)) (hq : bq_V q) (hN : bq_N K q c 0 = 1) (h : post 1) : wpX_isLone post (bq_x b l c nx K nu co mk U S w) (nI q) := by
  unfold wpX_isLone
  dsimp only
  refine bx_slot0 (m := 1) hc hV hq (by decide) (fun t ht et h2 => ?_) ?_
  · have h3 := bq_Nm (K := K) (q := q) (c := c) (Nat.zero_le t)
    rw [bq_Nt ht et] at h3
    omega
  · exact br_t rfl h
theorem bx_lone0 {post : Int32 → Prop} {c q : Nat} {K : Nat → Nat} {nu co mk : Nat → Int32} (hc : c ≤ 24) (hV : ∀ j, bq_V (K j)) (hq : bq_V q) (hN : 1 < bq_N K q c 0) (h : post 0) : wpX_isLone post (bq_x b l c nx K nu co mk U S w) (nI q) := by
  unfold wpX_isLone
  dsimp only
  obtain ⟨t, _, t2, t3, t4⟩ := bq_hit (K := K) (q := q) (c := c) c 0 1 (by omega) hN
  refine bx_slot1 (m := 1) hc hV hq t2 t3 t4 ?_
  exact br_f (bq_nm1 (by omega)) h
theorem bz_e2_l : ∀ d c (K : Nat → Nat) (nu co mk ob : Nat → Int32), bq_C c K mk ob → d ≤ c → ∃ (c' : Nat) (K' : Nat → Nat) (nu' co' mk' ob' : Nat → Int32), bq_C c' K' mk' ob' ∧ (∀ post : SX → Prop, post (bq_x b l c' nx K' nu' co' mk' U S w) → ∀ x, x = nI d + (-1) → wX_takeAwayLoneMarkers_7 post (d + 1) x (nI b) (nI l) (nI c) (nI nx) (fun i => nI (K i)) nu co mk (fun i => nI (U i)) S w) ∧ (∀ (post : Int32 → SY → Prop) z, post (z - nI c') (bq_y b l c' nx K' nu' co' ob' U S w) → ∀ x, x = nI d + (-1) → wY_expire_69 post z (d + 1) x (nI (bq_c b)) (nI l) (nI nx) (nI c) nu (fun i => nI (bq_c (K i))) ob co (fun i => nI (bq_c (U i))) (bq_h S) w) := by
  intro d
  induction d with
  | zero =>
    intro c K nu co mk ob hC _
    refine ⟨c, K, nu, co, mk, ob, hC, fun post hp x hx => ?_, fun post z hp x hx => ?_⟩
    · subst hx
      exact br_t bq_z1 hp
    · subst hx
      exact br_t bq_z1 hp
  | succ d ih =>
    intro c K nu co mk ob hC hd
    have hc := hC.1
    have hV := hC.2.1
    have hcl : (nI d).toNatClampNeg = d := nI_clamp (by omega)
    have hi : vp_in (nI d) 24 := vp_in_nI (by omega) (by decide)
    have h0 : ¬ nI d < 0 := nI_pos (by omega)
    have hk : (fun i => nI (K i)) (nI d).toNatClampNeg = nI (K d) := congrArg (fun i => nI (K i)) hcl
    have hky : (fun i => nI (bq_c (K i))) (nI d).toNatClampNeg = nI (bq_c (K d)) := congrArg (fun i => nI (bq_c (K i))) hcl
    have hb := bq_Nc (K := K) (q := K d) (c := c) (s := 0)
    have h1 : 1 ≤ bq_N K (K d) c 0 := by
      have h3 := bq_Nm (K := K) (q := K d) (c := c) (Nat.zero_le d)
      rw [bq_Nt (by omega) rfl] at h3
      omega
    rcases hC.2.2.2 d (by omega) with ⟨m0, o1⟩ | ⟨m1, o0⟩
    · obtain ⟨c', K', nu', co', mk', ob', hC', hX, hY⟩ := ih c K nu co mk ob hC (by omega)
      refine ⟨c', K', nu', co', mk', ob', hC', fun post hp x hx => ?_, fun post z hp x hx => ?_⟩
      · rw [pk_m1] at hx
        subst hx
        exact br_f h0 ⟨hi, br_t ((congrArg mk hcl).trans m0) (hX post hp)⟩
      · rw [pk_m1] at hx
        subst hx
        exact br_f h0 ⟨hi, br_f (fun z => absurd (((congrArg ob hcl).trans o1).symm.trans z) (by decide)) (hY post z hp)⟩
    · have hmk : ¬ mk (nI d).toNatClampNeg = 0 := fun z => absurd (((congrArg mk hcl).trans m1).symm.trans z) (by decide)
      have hob : ob (nI d).toNatClampNeg = 0 := (congrArg ob hcl).trans o0
      by_cases h : bq_N K (K d) c 0 = 1
      · obtain ⟨c', K', nu', co', mk', ob', hC', hX, hY⟩ := ih (c - 1) (bq_sh d c K) (bq_sh d c nu) (bq_sh d c co) (bq_sh d c mk) (bq_sh d c ob) (bz_takeC hC (by omega)) (by omega)
        refine ⟨c', K', nu', co', mk', ob', hC', fun post hp x hx => ?_, fun post z hp x hx => ?_⟩
        · rw [pk_m1] at hx
          subst hx
          refine br_f h0 ⟨hi, br_f hmk ⟨hi, ?_⟩⟩
          rw [hk]
          refine bx_lone1 hc hV (hV d) h ?_
          refine br_f (by decide) ?_
          refine bx_take hc (by omega) (bz_mk hC) ?_
          exact hX post hp
        · rw [pk_m1] at hx
          subst hx
          refine br_f h0 ⟨hi, br_t hob ⟨hi, ?_⟩⟩
          rw [hky]
          refine by_vers hc hV (hV d) ?_
          rw [h]
          refine br_t rfl ?_
          refine by_take hc (by omega) (bz_ob hC) ?_
          exact hY post z hp
      · obtain ⟨c', K', nu', co', mk', ob', hC', hX, hY⟩ := ih c K nu co mk ob hC (by omega)
        refine ⟨c', K', nu', co', mk', ob', hC', fun post hp x hx => ?_, fun post z hp x hx => ?_⟩
        · rw [pk_m1] at hx
          subst hx
          refine br_f h0 ⟨hi, br_f hmk ⟨hi, ?_⟩⟩
          rw [hk]
          refine bx_lone0 hc hV (hV d) (by omega) ?_
          exact br_t rfl (hX post hp)
        · rw [pk_m1] at hx
          subst hx
          refine br_f h0 ⟨hi, br_t hob ⟨hi, ?_⟩⟩
          rw [hky]
          refine by_vers hc hV (hV d) ?_
          exact br_f (fun e => h (bq_ni (b := 1) (by omega) (by decide) e)) (hY post z hp)
theorem bz_e2 {c : Nat} {K : Nat → Nat} {nu co mk ob : Nat → Int32} (hC : bq_C c K mk ob) : ∃ (c' : Nat) (K' : Nat → Nat) (nu' co' mk' ob' : Nat → Int32), bq_C c' K' mk' ob' ∧ (∀ post : SX → Prop, post (bq_x b l c' nx K' nu' co' mk' U S w) → wpX_takeAwayLoneMarkers post (bq_x b l c nx K nu co mk U S w)) ∧ (∀ (post : Int32 → SY → Prop) z, post (z - nI c') (bq_y b l c' nx K' nu' co' ob' U S w) → ∀ x, x = nI c - 1 → ∃ n, wY_expire_69 post z n x (nI (bq_c b)) (nI l) (nI nx) (nI c) nu (fun i => nI (bq_c (K i))) ob co (fun i => nI (bq_c (U i))) (bq_h S) w) := by
  obtain ⟨c', K', nu', co', mk', ob', hC', hX, hY⟩ := bz_e2_l (b := b) (l := l) (nx := nx) (U := U) (S := S) (w := w) c c K nu co mk ob hC (Nat.le_refl c)
  refine ⟨c', K', nu', co', mk', ob', hC', fun post hp => ?_, fun post z hp x hx => ⟨c + 1, hY post z hp x (hx.trans (bq_s1 c))⟩⟩
  show ∀ x2 : Int32, x2 = nI c - 1 → ∃ n, wX_takeAwayLoneMarkers_7 post n x2 (nI b) (nI l) (nI c) (nI nx) (fun i => nI (K i)) nu co mk (fun i => nI (U i)) S w
  exact fun x hx => ⟨c + 1, hX post hp x (hx.trans (bq_s1 c))⟩
end
theorem i_vc_expire {k : Nat} {u : SX} {v : SY} (I : i_Rel k u v) (hk : k + 4 ≤ 2048) (v1 : Int32) : wpX_expire (fun r u' => wpY_expire (fun r' v' => r' = r ∧ i_Rel (k + 4) u' v') v v1) u v1 := by
  obtain ⟨b, l, c, nx, K, nu, co, mk, ob, U, S, w, rfl, rfl, hB, hC, hU, hx⟩ := I
  obtain ⟨m, hm, hcase⟩ : ∃ m, m ≤ 24 ∧ ((¬ 0 ≤ v1 ∧ m = 0) ∨ (0 ≤ v1 ∧ v1 ≤ 24 ∧ v1 = nI m) ∨ (0 ≤ v1 ∧ ¬ v1 ≤ 24 ∧ m = 24)) := by
    by_cases h0 : 0 ≤ v1
    · by_cases h24 : v1 ≤ 24
      · obtain ⟨m, hm, e⟩ := nI_of2 (n := 24) (by decide) (Int32.not_lt.mpr h0) h24
        exact ⟨m, hm, Or.inr (Or.inl ⟨h0, h24, e⟩)⟩
      · exact ⟨24, by decide, Or.inr (Or.inr ⟨h0, h24, rfl⟩)⟩
    · exact ⟨0, by decide, Or.inl ⟨h0, rfl⟩⟩
  obtain ⟨c1, K1, nu1, co1, mk1, ob1, hC1, X1, Y1⟩ := bz_e1 (b := b) (l := l) (nx := nx) (U := U) (S := S) (w := w) (nu := nu) (co := co) hm hC
  obtain ⟨c2, K2, nu2, co2, mk2, ob2, hC2, X2, Y2⟩ := bz_e2 (b := b) (l := l) (nx := nx) (U := U) (S := S) (w := w) (nu := nu1) (co := co1) hC1
  have fin : i_Rel (k + 4) (bq_x b l c2 nx K2 nu2 co2 mk2 U S w) (bq_y b l c2 nx K2 nu2 co2 ob2 U S w) := ⟨b, l, c2, nx, K2, nu2, co2, mk2, ob2, U, S, w, rfl, rfl, hB, hC2, hU, by omega⟩
  unfold wpX_expire wpY_expire
  dsimp only
  rcases hcase with ⟨h0, rfl⟩ | ⟨h0, h24, rfl⟩ | ⟨h0, h24, rfl⟩
  · refine br_f h0 (nm_r (nI_1 0) ?_)
    refine X1 _ ?_
    refine X2 _ ?_
    exact br_f h0 (Y1 _ _ (br_t bq_z1 (Y2 _ _ ⟨rfl, fin⟩)))
  · refine br_t h0 (br_t h24 (nm_r (nI_1 m) ?_))
    refine X1 _ ?_
    refine X2 _ ?_
    exact br_t h0 (br_t h24 (Y1 _ _ (br_t bq_z1 (Y2 _ _ ⟨rfl, fin⟩))))
  · refine br_t h0 (br_f h24 (nm_r (nI_1 24) ?_))
    refine X1 _ ?_
    refine X2 _ ?_
    exact br_t h0 (br_f h24 (Y1 _ _ (br_t bq_z1 (Y2 _ _ ⟨rfl, fin⟩))))
end
section
/-! list, entry -/
def bq_fo (q : Nat) : Nat → Nat → Nat
  | 0, _ => q
  | d + 1, p => if bq_d q p = 6 then bq_f q (p + 1) else bq_fo q d (p + 1)
theorem bq_foV {q : Nat} (hq : bq_V q) : ∀ d p, p + d = 4 → bq_V (bq_fo q d p) ∧ (q ≠ 0 → bq_fo q d p ≠ 0) := by
  intro d
  induction d with
  | zero => intro p _; exact ⟨hq, fun h => h⟩
  | succ d ih =>
    intro p hp
    obtain ⟨h1, _, h3⟩ := bq_cut (i := p) hq (by omega)
    unfold bq_fo
    by_cases e : bq_d q p = 6
    · rw [if_pos e]
      exact ⟨h1, fun _ => h3 e⟩
    · rw [if_neg e]
      exact ih _ (by omega)
/-- the entry of a key in a listing -/
def bq_E (f : Int32) (l q : Nat) : Nat := if f = 0 then q else bq_fo q (4 - l) l
theorem bq_EV {f : Int32} {l q : Nat} (hl : l ≤ 4) (hq : bq_V q) : bq_V (bq_E f l q) ∧ (q ≠ 0 → bq_E f l q ≠ 0) := by
  unfold bq_E
  by_cases e : f = 0
  · rw [if_pos e]
    exact ⟨hq, fun h => h⟩
  · rw [if_neg e]
    exact bq_foV hq _ _ (by omega)
def bq_S (Q : Nat → Prop) (g : Nat → Nat) (j x : Nat) : Prop := ∃ s, s < j ∧ Q s ∧ x = g s
theorem bq_St {Q : Nat → Prop} {g : Nat → Nat} {j : Nat} (h : Q j) (x : Nat) : bq_S Q g (j + 1) x ↔ bq_S Q g j x ∨ x = g j := by
  constructor
  · rintro ⟨s, hs, hQ, e⟩
    by_cases z : s = j
    · subst z
      exact Or.inr e
    · exact Or.inl ⟨s, by omega, hQ, e⟩
  · rintro (⟨s, hs, hQ, e⟩ | e)
    · exact ⟨s, by omega, hQ, e⟩
    · exact ⟨j, by omega, h, e⟩
theorem bq_Sf {Q : Nat → Prop} {g : Nat → Nat} {j : Nat} (h : ¬ Q j) (x : Nat) : bq_S Q g (j + 1) x ↔ bq_S Q g j x := by
  constructor
  · rintro ⟨s, hs, hQ, e⟩
    by_cases z : s = j
    · subst z
      exact absurd hQ h
    · exact ⟨s, by omega, hQ, e⟩
  · rintro ⟨s, hs, hQ, e⟩
    exact ⟨s, by omega, hQ, e⟩
theorem bq_S0 {Q : Nat → Prop} {g : Nat → Nat} (e : Nat) : bq_M (bq_S Q g 0) e 0 := Or.inl ⟨rfl, fun x hx => by
  obtain ⟨s, hs, _⟩ := hx
  omega⟩
theorem bq_Mex {Q : Nat → Prop} {g : Nat → Nat} (e : Nat) : ∀ j, ∃ r, bq_M (bq_S Q g j) e r := by
  intro j
  induction j with
  | zero => exact ⟨0, bq_S0 e⟩
  | succ j ih =>
    obtain ⟨r, hr⟩ := ih
    by_cases h : Q j
    · by_cases h1 : g j ≤ e
      · exact ⟨r, bq_Mlow (bq_St h) h1 hr⟩
      · by_cases h2 : r = 0 ∨ g j < r
        · exact ⟨_, bq_Mnew (bq_St h) (by omega) h2 hr⟩
        · exact ⟨r, bq_Mold (bq_St h) (by omega) (by omega) hr⟩
    · exact ⟨r, bq_Mc (bq_Sf h) hr⟩
theorem bq_MV {Q : Nat → Prop} {g : Nat → Nat} {e j r : Nat} (hg : ∀ s, bq_V (g s)) (h : bq_M (bq_S Q g j) e r) : bq_V r := by
  rcases h with ⟨rfl, _⟩ | ⟨⟨s, _, _, rfl⟩, _⟩
  · exact bq_V0
  · exact hg s
def bq_yv (m : Nat) : Int32 := if m = 0 then -1 else nI (bq_c m)
theorem bq_yv0 : bq_yv 0 = -1 := rfl
theorem bq_yvn {m : Nat} (h : m ≠ 0) : bq_yv m = nI (bq_c m) := if_neg h
theorem bx_dig {post : Int32 → Prop} {p i : Nat} (hp : p < 4096) (hi : i < 4) (h : post (nI (bq_d p i))) : wpX_digitAt post (nI p) (nI i) := by
  show post ((nI p >>> ((((3 : Int32) - nI i) * 3) &&& 31)) &&& 7)
  rw [bq_digX hp hi]
  exact h
theorem bx_fl {post : Int32 → Prop} {p n : Nat} (hp : p < 4096) (hn : n ≤ 4) (h : post (nI (bq_f p n))) : wpX_firstLetters post (nI p) (nI n) := by
  show post (nI p &&& ((-1 : Int32) <<< ((((4 : Int32) - nI n) * 3) &&& 31)))
  rw [bq_first hp hn]
  exact h
section
variable {b l c nx : Nat} {K U : Nat → Nat} {nu co mk ob S w : Nat → Int32}
theorem by_dig {post : Int32 → Prop} {q i : Nat} (hq : bq_V q) (hi : i < 4) (h : post (nI (bq_d q i))) : wpY_digit post (bq_y b l c nx K nu co ob U S w) (nI (bq_c q)) (nI i) := by
  obtain ⟨d0, d1, d2, d3, hlt⟩ := bq_dg hq
  have n7 : ¬ (7 : Int32) = 0 := by decide
  have n49 : ¬ (49 : Int32) = 0 := by decide
  have n343 : ¬ (343 : Int32) = 0 := by decide
  obtain rfl | rfl | rfl | rfl : i = 0 ∨ i = 1 ∨ i = 2 ∨ i = 3 := by omega
  · refine br_t rfl ⟨n7, ?_⟩
    have e : nI (bq_c q) - nI (bq_c q) / 7 * 7 = nI (bq_d q 0) := (pk_rem (d := 7) (by omega) (by decide) (by decide)).trans (congrArg nI d0)
    rw [e]
    exact h
  · refine br_f (by decide) (br_t rfl ⟨n7, nm_r (pk_div (d := 7) (by omega) (by decide) (by decide)) ⟨n7, ?_⟩⟩)
    have e : nI (bq_c q / 7) - nI (bq_c q / 7) / 7 * 7 = nI (bq_d q 1) := (pk_rem (d := 7) (by omega) (by decide) (by decide)).trans (congrArg nI d1)
    rw [e]
    exact h
  · refine br_f (by decide) (br_f (by decide) (br_t rfl ⟨n49, nm_r (pk_div (d := 49) (by omega) (by decide) (by decide)) ⟨n7, ?_⟩⟩))
    have e : nI (bq_c q / 49) - nI (bq_c q / 49) / 7 * 7 = nI (bq_d q 2) := (pk_rem (d := 7) (by omega) (by decide) (by decide)).trans (congrArg nI d2)
    rw [e]
    exact h
  · refine br_f (by decide) (br_f (by decide) (br_f (by decide) ⟨n343, nm_r (pk_div (d := 343) (by omega) (by decide) (by decide)) ⟨n7, ?_⟩⟩))
    have e : nI (bq_c q / 343) - nI (bq_c q / 343) / 7 * 7 = nI (bq_d q 3) := (pk_rem (d := 7) (by omega) (by decide) (by decide)).trans (congrArg nI d3)
    rw [e]
    exact h
theorem by_pow {post : Int32 → Prop} {i : Nat} (hi : i ≤ 4) (h : post (nI (7 ^ i))) : wpY_power post (bq_y b l c nx K nu co ob U S w) (nI i) := by
  obtain rfl | rfl | rfl | rfl | rfl : i = 0 ∨ i = 1 ∨ i = 2 ∨ i = 3 ∨ i = 4 := by omega
  · exact br_t rfl h
  · exact br_f (by decide) (br_t rfl h)
  · exact br_f (by decide) (br_f (by decide) (br_t rfl h))
  · exact br_f (by decide) (br_f (by decide) (br_f (by decide) (br_t rfl h)))
  · exact br_f (by decide) (br_f (by decide) (br_f (by decide) (br_f (by decide) h)))
theorem bx_fold_l {post : Int32 → Prop} {q : Nat} (hq : bq_V q) : ∀ d p, p + d = 4 → post (nI (bq_fo q d p)) → wX_folded_5 post (nI q) (nI b) (nI l) (nI c) (nI nx) (fun i => nI (K i)) nu co mk (fun i => nI (U i)) S w (d + 1) (nI p) := by
  intro d
  induction d with
  | zero =>
    intro p hp h
    exact br_t (nI_le (a := 4) (by omega) (by omega)) h
  | succ d ih =>
    intro p hp h
    unfold bq_fo at h
    have hd := bq_dlt hq p
    refine br_f (nI_ge (b := 4) (by omega) (by decide)) ?_
    refine bx_dig hq.1 (by omega) ?_
    refine pk_eq (bq_d q p) 6 (fun e => ?_) (fun e => ?_) rfl rfl (by omega) (by decide)
    · rw [if_pos e] at h
      rw [nI_1]
      exact bx_fl hq.1 (by omega) h
    · rw [if_neg e] at h
      exact nm_r (nI_1 p) (ih _ (by omega) h)
theorem bx_fold {post : Int32 → Prop} {q : Nat} (hq : bq_V q) (hl : l ≤ 4) (h : post (nI (bq_fo q (4 - l) l))) : wpX_folded post (bq_x b l c nx K nu co mk U S w) (nI q) :=
  ⟨4 - l + 1, bx_fold_l hq _ _ (by omega) h⟩
theorem by_fold0 {post : Int32 → Prop} {q : Nat} (h : post (nI (bq_c q))) : ∀ d p, p + d = 4 → wY_entryOf_51 post (nI (bq_c q)) 0 (nI (bq_c b)) (nI l) (nI nx) (nI c) nu (fun i => nI (bq_c (K i))) ob co (fun i => nI (bq_c (U i))) (bq_h S) w (d + 1) (nI p) := by
  intro d
  induction d with
  | zero =>
    intro p hp
    exact br_t (nI_le (a := 4) (by omega) (by omega)) h
  | succ d ih =>
    intro p hp
    exact br_f (nI_ge (b := 4) (by omega) (by decide)) (br_t rfl (nm_r (nI_1 p) (ih _ (by omega))))
theorem by_fold1 {post : Int32 → Prop} {q : Nat} {f : Int32} (hf : ¬ f = 0) (hq : bq_V q) : ∀ d p, p + d = 4 → post (nI (bq_c (bq_fo q d p))) → wY_entryOf_51 post (nI (bq_c q)) f (nI (bq_c b)) (nI l) (nI nx) (nI c) nu (fun i => nI (bq_c (K i))) ob co (fun i => nI (bq_c (U i))) (bq_h S) w (d + 1) (nI p) := by
  intro d
  induction d with
  | zero =>
    intro p hp h
    exact br_t (nI_le (a := 4) (by omega) (by omega)) h
  | succ d ih =>
    intro p hp h
    unfold bq_fo at h
    have hd := bq_dlt hq p
    have hlt := bq_lt hq
    refine br_f (nI_ge (b := 4) (by omega) (by decide)) (br_f hf ?_)
    refine by_dig hq (by omega) ?_
    refine pk_eq (bq_d q p) 6 (fun e => ?_) (fun e => ?_) rfl rfl (by omega) (by decide)
    · rw [if_pos e, (bq_cut hq (by omega)).2.1] at h
      rw [nI_1]
      have hp7 : 7 ^ (p + 1) ≤ 7 ^ 4 := Nat.pow_le_pow_right (by decide) (by omega)
      have hp0 : 0 < 7 ^ (p + 1) := Nat.pow_pos (by decide)
      refine by_pow (by omega) ?_
      refine br_f (nI_nle hp0 (by omega)) ⟨nI_ne0 hp0 (by omega), ?_⟩
      rw [pk_rem (by omega) hp0 (by omega)]
      exact h
    · rw [if_neg e] at h
      exact nm_r (nI_1 p) (ih _ (by omega) h)
theorem by_fold {post : Int32 → Prop} {q : Nat} {f : Int32} (hq : bq_V q) (hl : l ≤ 4) (h : post (nI (bq_c (bq_E f l q)))) : ∃ n, wY_entryOf_51 post (nI (bq_c q)) f (nI (bq_c b)) (nI l) (nI nx) (nI c) nu (fun i => nI (bq_c (K i))) ob co (fun i => nI (bq_c (U i))) (bq_h S) w n (nI l) := by
  unfold bq_E at h
  by_cases e : f = 0
  · rw [if_pos e] at h
    subst e
    exact ⟨_, by_fold0 h (4 - l) l (by omega)⟩
  · rw [if_neg e] at h
    exact ⟨_, by_fold1 e hq (4 - l) l (by omega) h⟩
theorem by_pre_l {post : Int32 → Prop} {q : Nat} {f : Int32} (hB : bq_B b l) (hq : bq_V q) (h1 : (∀ j, j < l → bq_d q j = bq_d b j) → post (nI (bq_c (bq_E f l q)))) (h2 : ¬ (∀ j, j < l → bq_d q j = bq_d b j) → post (-1)) : ∀ d p, p + d = l → (∀ j, j < p → bq_d q j = bq_d b j) → wY_entryOf_12 post (nI (bq_c q)) f (nI (bq_c b)) (nI l) (nI nx) (nI c) nu (fun i => nI (bq_c (K i))) ob co (fun i => nI (bq_c (U i))) (bq_h S) w (d + 1) (nI p) := by
  have hl := hB.2.1
  intro d
  induction d with
  | zero =>
    intro p hp he
    obtain rfl : p = l := by omega
    exact br_t (nI_le (by omega) (by omega)) (by_fold hq hl (h1 he))
  | succ d ih =>
    intro p hp he
    have hd := bq_dlt hq p
    have hd2 := bq_dlt hB.1 p
    refine br_f (nI_ge (by omega) (by omega)) ?_
    refine by_dig hq (by omega) ?_
    refine by_dig hB.1 (by omega) ?_
    refine pk_eq (bq_d q p) (bq_d b p) (fun e => ?_) (fun e => ?_) rfl rfl (by omega) (by omega)
    · refine nm_r (nI_1 p) (ih _ (by omega) (fun j hj => ?_))
      by_cases z : j = p
      · subst z
        exact e
      · exact he j (by omega)
    · exact h2 (fun z => e (z p (by omega)))
/-- a key that is present and begins with the buffer -/
def bq_Q (b l c : Nat) (K : Nat → Nat) (mk ob : Nat → Int32) (s : Nat) : Prop := bq_f (K s) l = b ∧ ∃ t, t < c ∧ K t = K s ∧ bq_N K (K s) c (t + 1) = 0 ∧ mk t = 0 ∧ ob t = 1
theorem by_ent {post : Int32 → Prop} {s : Nat} {f : Int32} (hB : bq_B b l) (hC : bq_C c K mk ob) (h1 : bq_Q b l c K mk ob s → post (nI (bq_c (bq_E f l (K s))))) (h2 : ¬ bq_Q b l c K mk ob s → post (-1)) : wpY_entryOf post (bq_y b l c nx K nu co ob U S w) (nI (bq_c (K s))) f := by
  have hc := hC.1
  have hV := hC.2.1
  unfold wpY_entryOf
  dsimp only
  have hp := bq_pre (p := K s) (hV s).1 hB
  rcases bz_pres (q := K s) hC with ⟨t, ht, e, hN, hm, ho⟩ | ⟨hm, ho⟩
  · refine by_pr1 hc hV (hV s) ht e hN ho ?_
    refine br_f (by decide) ⟨l + 1, by_pre_l hB (hV s) (fun h => h1 ⟨hp.mpr h, t, ht, e, hN, hm, ho⟩) (fun h => h2 (fun z => h (hp.mp z.1))) l 0 (by omega) (fun j hj => absurd hj (by omega))⟩
  · refine by_pr0 hc hV (hV s) ho ?_
    refine br_t rfl (h2 (fun z => ?_))
    obtain ⟨_, t, ht, e, hN, hm2, _⟩ := z
    exact hm t ht e hN hm2
theorem by_bef_l {post : Int32 → Prop} {a e : Nat} (ha : bq_V a) (he : bq_V e) (h : post (if a < e then 1 else 0)) : ∀ d p, p + d = 4 → (∀ j, j < p → bq_d a j = bq_d e j) → wY_before_2 post (nI (bq_c a)) (nI (bq_c e)) (nI (bq_c b)) (nI l) (nI nx) (nI c) nu (fun i => nI (bq_c (K i))) ob co (fun i => nI (bq_c (U i))) (bq_h S) w (d + 1) (nI p) := by
  intro d
  induction d with
  | zero =>
    intro p hp hj
    obtain rfl : p = 4 := by omega
    have z := bq_dall ha.1 he.1 hj
    rw [if_neg (by omega)] at h
    exact br_t (nI_le (a := 4) (b := 4) (by decide) (by decide)) h
  | succ d ih =>
    intro p hp hj
    have hd := bq_dlt ha p
    have hd2 := bq_dlt he p
    refine br_f (nI_ge (b := 4) (by omega) (by decide)) ?_
    refine by_dig ha (by omega) ?_
    refine by_dig he (by omega) ?_
    refine pk_eq (bq_d a p) (bq_d e p) (fun z => ?_) (fun z => ?_) rfl rfl (by omega) (by omega)
    · refine nm_r (nI_1 p) (ih _ (by omega) (fun j hj2 => ?_))
      by_cases y : j = p
      · subst y
        exact z
      · exact hj j (by omega)
    · have hx := bq_lex ha.1 he.1 (show p < 4 by omega) hj z
      refine by_dig ha (by omega) ?_
      refine by_dig he (by omega) ?_
      refine pk_le (bq_d e p) (bq_d a p) (fun y => ?_) (fun y => ?_) rfl rfl (by omega) (by omega)
      · rw [if_neg (fun q => absurd (hx.mpr q) (by omega))] at h
        exact h
      · rw [if_pos (hx.mp y)] at h
        exact h
theorem by_bef {post : Int32 → Prop} {a e : Nat} (ha : bq_V a) (he : bq_V e) (h : post (if a < e then 1 else 0)) : wpY_before post (bq_y b l c nx K nu co ob U S w) (nI (bq_c a)) (nI (bq_c e)) :=
  ⟨5, by_bef_l ha he h 4 0 (by omega) (fun j hj => absurd hj (by omega))⟩
theorem by_beh_l {post : Int32 → Prop} {e : Nat} {f : Int32} (hB : bq_B b l) (hC : bq_C c K mk ob) (he : bq_V e) (hp : ∀ r, bq_M (bq_S (bq_Q b l c K mk ob) (fun s => bq_E f l (K s)) c) e r → post (bq_yv r)) : ∀ d j r, j + d = c → bq_M (bq_S (bq_Q b l c K mk ob) (fun s => bq_E f l (K s)) j) e r → wY_behind_5 post (nI (bq_c e)) f (nI (bq_c b)) (nI l) (nI nx) (nI c) nu (fun i => nI (bq_c (K i))) ob co (fun i => nI (bq_c (U i))) (bq_h S) w (d + 1) (bq_yv r) (nI j) := by
  have hc := hC.1
  have hV := hC.2.1
  have hg : ∀ s, bq_V (bq_E f l (K s)) := fun s => (bq_EV hB.2.1 (hV s)).1
  intro d
  induction d with
  | zero =>
    intro j r hj hr
    obtain rfl : j = c := by omega
    exact br_t (nI_le (by omega) (by omega)) (hp r hr)
  | succ d ih =>
    intro j r hj hr
    have hcl : (nI j).toNatClampNeg = j := nI_clamp (by omega)
    have hky : (fun i => nI (bq_c (K i))) (nI j).toNatClampNeg = nI (bq_c (K j)) := congrArg (fun i => nI (bq_c (K i))) hcl
    have hrV := bq_MV hg hr
    refine br_f (nI_ge (by omega) (by omega)) ⟨vp_in_nI (by omega) (by decide), ?_⟩
    rw [hky]
    refine by_ent hB hC (fun hQ => ?_) (fun hQ => ?_)
    · have hzV := hg j
      have hz0 : bq_E f l (K j) ≠ 0 := (bq_EV hB.2.1 (hV j)).2 (hC.2.2.1 j (by omega))
      have hzp := bq_pos hzV hz0
      have hzl := bq_lt hzV
      refine br_f (nI_nle hzp (by omega)) ?_
      refine by_bef he hzV ?_
      by_cases h1 : e < bq_E f l (K j)
      · rw [if_pos h1]
        refine br_f (by decide) ?_
        by_cases h0 : r = 0
        · subst h0
          rw [bq_yv0]
          refine br_t (by decide) (nm_r (nI_1 j) ?_)
          have h3 := ih (j + 1) _ (by omega) (bq_Mnew (bq_St hQ) h1 (Or.inl rfl) hr)
          rw [bq_yvn hz0] at h3
          exact h3
        · have hrl := bq_lt hrV
          rw [bq_yvn h0]
          refine br_f (nI_pos (by omega)) ?_
          refine by_bef hzV hrV ?_
          by_cases h2 : bq_E f l (K j) < r
          · rw [if_pos h2]
            refine br_f (by decide) (nm_r (nI_1 j) ?_)
            have h3 := ih (j + 1) _ (by omega) (bq_Mnew (bq_St hQ) h1 (Or.inr h2) hr)
            rw [bq_yvn hz0] at h3
            exact h3
          · rw [if_neg h2]
            refine br_t rfl (nm_r (nI_1 j) ?_)
            have h3 := ih (j + 1) _ (by omega) (bq_Mold (bq_St hQ) h0 (Nat.le_of_not_lt h2) hr)
            rw [bq_yvn h0] at h3
            exact h3
      · rw [if_neg h1]
        exact br_t rfl (nm_r (nI_1 j) (ih (j + 1) _ (by omega) (bq_Mlow (bq_St hQ) (Nat.le_of_not_lt h1) hr)))
    · exact br_t (by decide) (nm_r (nI_1 j) (ih (j + 1) _ (by omega) (bq_Mc (bq_Sf hQ) hr)))
/-! X -/
def bq_L (b l c : Nat) (K : Nat → Nat) (mk : Nat → Int32) (s : Nat) : Prop := bq_f (K s) l = b ∧ bq_N K (K s) c (s + 1) = 0 ∧ mk s = 0
theorem bx_lst {post : Int32 → Prop} {s : Nat} (hB : bq_B b l) (hc : c ≤ 24) (hV : ∀ j, bq_V (K j)) (hs : s < c) (h1 : bq_L b l c K mk s → post 1) (h2 : ¬ bq_L b l c K mk s → post 0) : wpX_isListed post (bq_x b l c nx K nu co mk U S w) (nI s) := by
  have hcl : (nI s).toNatClampNeg = s := nI_clamp (by omega)
  have hfl := bq_flt (hV s).1 l
  have hbl := hB.1.1
  unfold wpX_isListed
  dsimp only
  refine ⟨vp_in_nI (by omega) (by decide), nm_r (congrArg (fun i => nI (K i)) hcl) ?_⟩
  refine bx_fl (hV s).1 hB.2.1 ?_
  refine pk_eq (bq_f (K s) l) b (fun e => ?_) (fun e => h2 (fun z => e z.1)) rfl rfl (by omega) (by omega)
  by_cases hx : ∃ t, t < c ∧ K t = K s ∧ bq_N K (K s) c (t + 1) = 0 ∧ mk t = 0
  · obtain ⟨t, ht, et, hN, hm⟩ := hx
    refine bx_cur1 hc hV (hV s) ht et hN hm ?_
    refine pk_eq t s (fun z => ?_) (fun z => h2 (fun y => ?_)) rfl rfl (by omega) (by omega)
    · subst z
      exact h1 ⟨e, hN, hm⟩
    · exact z (bq_un ht et hs rfl (hN.trans y.2.1.symm))
  · refine bx_cur0 hc hV (hV s) (fun t ht et hN hm => hx ⟨t, ht, et, hN, hm⟩) ?_
    exact br_f (fun z => bq_nm1 (n := s) (by omega) z.symm) (h2 (fun y => hx ⟨s, hs, rfl, y.2.1, y.2.2⟩))
theorem bx_beh_47 {post : Int32 → Prop} {J : Int32 → Int32 → Prop} {Q : Nat → Prop} {g : Nat → Nat} {e r j z : Nat} {f : Int32} (he : e < 4096) (hr : r < 4096) (hz : z < 4096) (hj : z = g j) (hQ : Q j) (hM : bq_M (bq_S Q g j) e r) (hJ : ∀ t, bq_M (bq_S Q g (j + 1)) e t → J (nI t) (nI (j + 1))) : wX_entryBehind_47 post J (nI e) f (nI r) (nI j) (nI z) (nI b) (nI l) (nI c) (nI nx) (fun i => nI (K i)) nu co mk (fun i => nI (U i)) S w := by
  subst hj
  refine pk_le (g j) e (fun h => nm_r (nI_1 j) (hJ r (bq_Mlow (bq_St hQ) h hM))) (fun h => ?_) rfl rfl (by omega) (by omega)
  refine pk_eq r 0 (fun h0 => nm_r (nI_1 j) (hJ _ (bq_Mnew (bq_St hQ) h (Or.inl h0) hM))) (fun h0 => ?_) rfl rfl (by omega) (by decide)
  exact pk_le r (g j) (fun h2 => nm_r (nI_1 j) (hJ _ (bq_Mold (bq_St hQ) h0 h2 hM))) (fun h2 => nm_r (nI_1 j) (hJ _ (bq_Mnew (bq_St hQ) h (Or.inr h2) hM))) rfl rfl (by omega) (by omega)
theorem bx_beh_l {post : Int32 → Prop} {e : Nat} {f : Int32} (hB : bq_B b l) (hc : c ≤ 24) (hV : ∀ j, bq_V (K j)) (he : bq_V e) (hp : ∀ r, bq_M (bq_S (bq_L b l c K mk) (fun s => bq_E f l (K s)) c) e r → post (nI r)) : ∀ d j r, j + d = c → bq_M (bq_S (bq_L b l c K mk) (fun s => bq_E f l (K s)) j) e r → wX_entryBehind_5 post (nI e) f (nI b) (nI l) (nI c) (nI nx) (fun i => nI (K i)) nu co mk (fun i => nI (U i)) S w (d + 1) (nI r) (nI j) := by
  have hg : ∀ s, bq_V (bq_E f l (K s)) := fun s => (bq_EV hB.2.1 (hV s)).1
  intro d
  induction d with
  | zero =>
    intro j r hj hr
    obtain rfl : j = c := by omega
    exact br_t (nI_le (by omega) (by omega)) (hp r hr)
  | succ d ih =>
    intro j r hj hr
    have hcl : (nI j).toNatClampNeg = j := nI_clamp (by omega)
    have hrV := bq_MV hg hr
    refine br_f (nI_ge (by omega) (by omega)) ?_
    refine bx_lst hB hc hV (by omega) (fun hQ => ?_) (fun hQ => ?_)
    · refine br_f (by decide) ⟨vp_in_nI (by omega) (by decide), nm_r (congrArg (fun i => nI (K i)) hcl) ?_⟩
      have hzV := hg j
      by_cases hf : f = 0
      · have ez : K j = bq_E f l (K j) := by
          unfold bq_E
          rw [if_pos hf]
        exact br_t hf (bx_beh_47 (Q := bq_L b l c K mk) (g := fun s => bq_E f l (K s)) he.1 hrV.1 (hV j).1 ez hQ hr (fun t ht => ih _ _ (by omega) ht))
      · have ez : bq_fo (K j) (4 - l) l = bq_E f l (K j) := by
          unfold bq_E
          rw [if_neg hf]
        refine br_f hf ?_
        refine bx_fold (hV j) hB.2.1 ?_
        exact bx_beh_47 (Q := bq_L b l c K mk) (g := fun s => bq_E f l (K s)) he.1 hrV.1 (by rw [ez]; exact hzV.1) ez hQ hr (fun t ht => ih _ _ (by omega) ht)
    · exact br_t rfl (nm_r (nI_1 j) (ih _ _ (by omega) (bq_Mc (bq_Sf hQ) hr)))
/-- the next entry behind e, on both sides -/
theorem bz_eb (nx : Nat) (U : Nat → Nat) (nu co S w : Nat → Int32) (hB : bq_B b l) (hC : bq_C c K mk ob) (f : Int32) {e : Nat} (he : bq_V e) : ∃ m, bq_V m ∧ (∀ post : Int32 → Prop, post (nI m) → wpX_entryBehind post (bq_x b l c nx K nu co mk U S w) (nI e) f) ∧ (∀ post : Int32 → Prop, post (bq_yv m) → wpY_behind post (bq_y b l c nx K nu co ob U S w) (nI (bq_c e)) f) := by
  have hV := hC.2.1
  have hg : ∀ s, bq_V (bq_E f l (K s)) := fun s => (bq_EV hB.2.1 (hV s)).1
  obtain ⟨m, hm⟩ := bq_Mex (Q := bq_L b l c K mk) (g := fun s => bq_E f l (K s)) e c
  have hm2 : bq_M (bq_S (bq_Q b l c K mk ob) (fun s => bq_E f l (K s)) c) e m := by
    refine bq_Mc (fun x => ?_) hm
    constructor
    · rintro ⟨s, hs, ⟨h1, t, ht, et, hN, hmk, _⟩, hx⟩
      refine ⟨t, ht, ⟨?_, ?_, hmk⟩, ?_⟩
      · rw [et]
        exact h1
      · rw [et]
        exact hN
      · show x = bq_E f l (K t)
        rw [et]
        exact hx
    · rintro ⟨s, hs, ⟨h1, h2, h3⟩, hx⟩
      refine ⟨s, hs, ⟨h1, s, hs, rfl, h2, h3, ?_⟩, hx⟩
      rcases hC.2.2.2 s hs with h | h
      · exact h.2
      · rw [h.1] at h3
        exact absurd h3 (by decide)
  refine ⟨m, bq_MV hg hm, fun post hp => ⟨c + 1, ?_⟩, fun post hp => ⟨c + 1, ?_⟩⟩
  · refine bx_beh_l hB hC.1 hV he (fun r hr => ?_) c 0 0 (by omega) (bq_S0 e)
    cases bq_Mu hm hr
    exact hp
  · refine by_beh_l hB hC he (fun r hr => ?_) c 0 0 (by omega) (bq_S0 e)
    cases bq_Mu hm2 hr
    exact hp
theorem bq_yvle {m : Nat} (hm : bq_V m) : bq_yv m ≤ 0 ↔ m = 0 := by
  constructor
  · intro h
    by_cases z : m = 0
    · exact z
    · rw [bq_yvn z] at h
      exact absurd h (nI_nle (bq_pos hm z) (by have := bq_lt hm; omega))
  · intro h
    subst h
    decide
theorem bz_list_l (hB : bq_B b l) (hC : bq_C c K mk ob) (f : Int32) : ∀ d n e m, n + d = 24 → bq_V m → (∀ post : Int32 → Prop, post (nI m) → wpX_entryBehind post (bq_x b l c nx K nu co mk U S w) (nI e) f) → ∃ r : Int32, (∀ post : Int32 → Prop, post r → wX_list_7 post f (nI b) (nI l) (nI c) (nI nx) (fun i => nI (K i)) nu co mk (fun i => nI (U i)) S w (d + 1) (nI n) (nI e) (nI n)) ∧ (∀ post : Int32 → Prop, post r → wY_list_12 post f (nI (bq_c b)) (nI l) (nI nx) (nI c) nu (fun i => nI (bq_c (K i))) ob co (fun i => nI (bq_c (U i))) (bq_h S) w (d + 1) (nI n) (bq_yv m) (nI n)) := by
  intro d
  induction d with
  | zero =>
    intro n e m hn _ _
    have h : (24 : Int32) ≤ nI n := nI_le (a := 24) (by omega) (by omega)
    exact ⟨nI n, fun _ hp => br_t h hp, fun _ hp => br_t h hp⟩
  | succ d ih =>
    intro n e m hn hm hX
    have h : ¬ (24 : Int32) ≤ nI n := nI_ge (b := 24) (by omega) (by decide)
    by_cases z : m = 0
    · refine ⟨nI n, fun post hp => br_f h (hX _ (br_t ((bq_pz hm).mpr z) hp)), fun post hp => br_f h (br_t ((bq_yvle hm).mpr z) hp)⟩
    · obtain ⟨m2, hm2, hX2, hY2⟩ := bz_eb nx U nu co S w hB hC f hm
      obtain ⟨r, rX, rY⟩ := ih (n + 1) m m2 (by omega) hm2 hX2
      refine ⟨r, fun post hp => br_f h (hX _ (br_f (fun y => z ((bq_pz hm).mp y)) (nm_r (nI_1 n) (nm_r (nI_1 n) (rX post hp))))), fun post hp => br_f h (br_f (fun y => z ((bq_yvle hm).mp y)) (nm_r (nI_1 n) ?_))⟩
      rw [bq_yvn z]
      exact hY2 _ (nm_r (nI_1 n) (rY post hp))
theorem bx_sum_s {post : Int32 → Prop} {q n a g p : Nat} (hq : q < 4096) (hp : p < 4) (h : wX_sumOfLetters_6 post (nI q) n (nI (a + bq_d q p * g)) (nI (g * 7)) (nI (p + 1))) : wX_sumOfLetters_6 post (nI q) (n + 1) (nI a) (nI g) (nI p) := by
  refine br_f (nI_ge (b := 4) hp (by decide)) ?_
  refine bx_dig hq hp ?_
  refine nm_r (?_ : _ = nI (a + bq_d q p * g)) (nm_r (pk_mul g 7) (nm_r (nI_1 p) h))
  rw [pk_mul, nI_add]
theorem bx_sum {post : Int32 → Prop} {q : Nat} (hq : q < 4096) (h : post (nI (bq_c q))) : wpX_sumOfLetters post (nI q) := by
  refine ⟨5, ?_⟩
  refine bx_sum_s (a := 0) (g := 1) (p := 0) hq (by decide) ?_
  refine bx_sum_s hq (by decide) ?_
  refine bx_sum_s hq (by decide) ?_
  refine bx_sum_s hq (by decide) ?_
  refine br_t (by decide) ?_
  have e : 0 + bq_d q 0 * 1 + bq_d q (0 + 1) * (1 * 7) + bq_d q (0 + 1 + 1) * (1 * 7 * 7) + bq_d q (0 + 1 + 1 + 1) * (1 * 7 * 7 * 7) = bq_c q := by
    show 0 + q / 512 % 8 * 1 + q / 64 % 8 * 7 + q / 8 % 8 * 49 + q % 8 * 343 = q / 512 % 8 + q / 64 % 8 * 7 + q / 8 % 8 * 49 + q % 8 * 343
    omega
  rw [e]
  exact h
theorem bz_ent_l {i : Nat} (hi : i < 24) (hB : bq_B b l) (hC : bq_C c K mk ob) (f : Int32) : ∀ d n e m, n + d = i → bq_V m → (∀ post : Int32 → Prop, post (nI m) → wpX_entryBehind post (bq_x b l c nx K nu co mk U S w) (nI e) f) → ∃ r : Int32, (∀ post : Int32 → Prop, post r → wX_entry_18 post (nI i) f (nI b) (nI l) (nI c) (nI nx) (fun i => nI (K i)) nu co mk (fun i => nI (U i)) S w (d + 1 + 1) (nI e) (nI n)) ∧ (∀ post : Int32 → Prop, post r → wY_entry_10 post (nI i) f (nI (bq_c b)) (nI l) (nI nx) (nI c) nu (fun i => nI (bq_c (K i))) ob co (fun i => nI (bq_c (U i))) (bq_h S) w (d + 1) (bq_yv m) (nI n)) := by
  intro d
  induction d with
  | zero =>
    intro n e m hn hm hX
    obtain rfl : n = i := by omega
    have h : ¬ (24 : Int32) ≤ nI n := nI_ge (b := 24) (by omega) (by decide)
    have hlt : ¬ nI n < nI n := nI_nlt (Nat.le_refl _) (by omega)
    by_cases z : m = 0
    · exact ⟨-7, fun post hp => br_f hlt (hX _ (br_t ((bq_pz hm).mpr z) hp)), fun post hp => br_f h (br_t ((bq_yvle hm).mpr z) hp)⟩
    · refine ⟨nI (bq_c m), fun post hp => br_f hlt (hX _ (br_f (fun y => z ((bq_pz hm).mp y)) (nm_r (nI_1 n) (br_t (nI_lt (by omega) (by omega)) ?_)))), fun post hp => br_f h (br_f (fun y => z ((bq_yvle hm).mp y)) (br_t rfl ?_))⟩
      · exact bx_sum hm.1 hp
      · rw [bq_yvn z]
        exact hp
  | succ d ih =>
    intro n e m hn hm hX
    have h : ¬ (24 : Int32) ≤ nI n := nI_ge (b := 24) (by omega) (by decide)
    have hlt : ¬ nI i < nI n := nI_nlt (by omega) (by omega)
    have hne : ¬ nI n = nI i := fun y => absurd (bq_ni (by omega) (by omega) y) (by omega)
    by_cases z : m = 0
    · exact ⟨-7, fun post hp => br_f hlt (hX _ (br_t ((bq_pz hm).mpr z) hp)), fun post hp => br_f h (br_t ((bq_yvle hm).mpr z) hp)⟩
    · obtain ⟨m2, hm2, hX2, hY2⟩ := bz_eb nx U nu co S w hB hC f hm
      obtain ⟨r, rX, rY⟩ := ih (n + 1) m m2 (by omega) hm2 hX2
      refine ⟨r, fun post hp => br_f hlt (hX _ (br_f (fun y => z ((bq_pz hm).mp y)) (nm_r (nI_1 n) (rX post hp)))), fun post hp => br_f h (br_f (fun y => z ((bq_yvle hm).mp y)) (br_f hne ?_))⟩
      rw [bq_yvn z]
      exact hY2 _ (nm_r (nI_1 n) (rY post hp))
theorem by_ent_n {post : Int32 → Prop} {i : Int32} (hi : ∀ n, n < 24 → ¬ nI n = i) (hB : bq_B b l) (hC : bq_C c K mk ob) (f : Int32) (hp : post (-7)) : ∀ d n m, n + d = 24 → bq_V m → wY_entry_10 post i f (nI (bq_c b)) (nI l) (nI nx) (nI c) nu (fun i => nI (bq_c (K i))) ob co (fun i => nI (bq_c (U i))) (bq_h S) w (d + 1) (bq_yv m) (nI n) := by
  intro d
  induction d with
  | zero =>
    intro n m hn _
    exact br_t (nI_le (a := 24) (by omega) (by omega)) hp
  | succ d ih =>
    intro n m hn hm
    have h : ¬ (24 : Int32) ≤ nI n := nI_ge (b := 24) (by omega) (by decide)
    by_cases z : m = 0
    · exact br_f h (br_t ((bq_yvle hm).mpr z) hp)
    · obtain ⟨m2, hm2, hX2, hY2⟩ := bz_eb nx U nu co S w hB hC f hm
      refine br_f h (br_f (fun y => z ((bq_yvle hm).mp y)) (br_f (hi n (by omega)) ?_))
      rw [bq_yvn z]
      exact hY2 _ (nm_r (nI_1 n) (ih _ _ (by omega) hm2))
end
end
section
theorem i_vc_list {k : Nat} {u : SX} {v : SY} (I : i_Rel k u v) (hk : k + 4 ≤ 2048) (v1 : Int32) : wpX_list (fun r => wpY_list (fun r' => r' = r ∧ i_Rel (k + 4) u v) v (lw_bz v1)) u (lw_bz v1) := by
  have I0 := i_up I
  obtain ⟨b, l, c, nx, K, nu, co, mk, ob, U, S, w, rfl, rfl, hB, hC, hU, hx⟩ := I
  obtain ⟨m, hm, hX, hY⟩ := bz_eb nx U nu co S w hB hC (lw_bz v1) bq_V0
  obtain ⟨r, rX, rY⟩ := bz_list_l (nx := nx) (U := U) (nu := nu) (co := co) (S := S) (w := w) hB hC (lw_bz v1) 24 0 0 m (by omega) hm hX
  unfold wpX_list wpY_list
  dsimp only
  rw [bq_c0] at hY
  exact ⟨25, rX _ (hY _ ⟨25, rY _ ⟨rfl, I0⟩⟩)⟩
theorem i_vc_entry {k : Nat} {u : SX} {v : SY} (I : i_Rel k u v) (hk : k + 4 ≤ 2048) (v1 : Int32) (v2 : Int32) : wpX_entry (fun r => wpY_entry (fun r' => r' = r ∧ i_Rel (k + 4) u v) v v1 (lw_bz v2)) u v1 (lw_bz v2) := by
  have I0 := i_up I
  obtain ⟨b, l, c, nx, K, nu, co, mk, ob, U, S, w, rfl, rfl, hB, hC, hU, hx⟩ := I
  obtain ⟨m, hm, hX, hY⟩ := bz_eb nx U nu co S w hB hC (lw_bz v2) bq_V0
  rw [bq_c0] at hY
  unfold wpX_entry wpY_entry
  dsimp only
  rcases pk_ix v1 (n := 24) (by decide) with h0 | h24 | ⟨i, hi, rfl⟩
  · have hn : ∀ n, n < 24 → ¬ nI n = v1 := fun n hn e => nI_pos (n := n) (by omega) (by rw [e]; exact h0)
    exact br_t h0 (hY _ ⟨25, by_ent_n hn hB hC (lw_bz v2) ⟨rfl, I0⟩ 24 0 m (by omega) hm⟩)
  · have h0 : ¬ v1 < 0 := fun z => absurd (Int32.lt_of_le_of_lt h24 z) (by decide)
    have h1 : ¬ v1 < 24 := fun z => absurd (Int32.lt_of_le_of_lt h24 z) (by decide)
    have hn : ∀ n, n < 24 → ¬ nI n = v1 := fun n hn e => nI_ge (a := n) (b := 24) hn (by decide) (by rw [e]; exact h24)
    exact br_f h0 (br_f h1 (hY _ ⟨25, by_ent_n hn hB hC (lw_bz v2) ⟨rfl, I0⟩ 24 0 m (by omega) hm⟩))
  · obtain ⟨r, rX, rY⟩ := bz_ent_l (nx := nx) (U := U) (nu := nu) (co := co) (S := S) (w := w) hi hB hC (lw_bz v2) i 0 0 m (by omega) hm hX
    exact br_f (nI_pos (by omega)) (br_t (nI_lt (b := 24) hi (by decide)) ⟨i + 1 + 1, rX _ (hY _ ⟨i + 1, rY _ ⟨rfl, I0⟩⟩)⟩)
end
