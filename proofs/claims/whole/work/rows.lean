section
theorem pk_us {f : Nat → Int32} {k : Nat} {x : Int32} : upd f k x k = x := if_pos rfl
theorem pk_un {f : Nat → Int32} {k j : Nat} {x : Int32} (h : j ≠ k) : upd f k x j = f j := if_neg h
theorem pk_sub {a b : Nat} (h : b ≤ a) : nI a - nI b = nI (a - b) := by
  obtain ⟨c, rfl⟩ : ∃ c, a = c + b := ⟨a - b, by omega⟩
  rw [← nI_add, Int32.add_sub_cancel, Nat.add_sub_cancel]
theorem pk_m1 (n : Nat) : nI (n + 1) + (-1) = nI n := by
  rw [← nI_1, Int32.add_assoc, show (1 : Int32) + (-1) = 0 from rfl, Int32.add_zero]
theorem pk_mul (a b : Nat) : nI a * nI b = nI (a * b) := (Int32.ofNat_mul a b).symm
theorem pk_div {a d : Nat} (ha : a < 2 ^ 31) (h0 : 0 < d) (hd : d < 2 ^ 31) : nI a / nI d = nI (a / d) := by
  apply Int32.toInt_inj.mp
  rw [lg_idiv_nonneg (by rw [nI_toInt ha]; omega) (by rw [nI_toInt hd]; omega), nI_toInt ha, nI_toInt hd, nI_toInt (Nat.lt_of_le_of_lt (Nat.div_le_self a d) ha)]
  first | rfl | exact (Int.natCast_ediv _ _).symm
theorem pk_rem {a d : Nat} (ha : a < 2 ^ 31) (h0 : 0 < d) (hd : d < 2 ^ 31) : nI a - nI a / nI d * nI d = nI (a % d) := by
  rw [pk_div ha h0 hd, pk_mul, pk_sub (Nat.div_mul_le_self a d)]
  exact congrArg nI (by have := Nat.div_add_mod' a d; omega)
theorem pk_ix (x : Int32) {n : Nat} (hn : n < 2 ^ 31) : x < 0 ∨ nI n ≤ x ∨ ∃ j : Nat, j < n ∧ x = nI j := by
  by_cases h : x < 0
  · exact Or.inl h
  · obtain ⟨j, hj, rfl⟩ := nI_of h
    by_cases h2 : j < n
    · exact Or.inr (Or.inr ⟨j, h2, rfl⟩)
    · exact Or.inr (Or.inl (nI_le (by omega) hj))
theorem pk_le {x y : Int32} {A B : Prop} (a b : Nat) (f : a ≤ b → A) (g : b < a → B) (hx : x = nI a := by rfl) (hy : y = nI b := by rfl) (ha : a < 2 ^ 31 := by omega) (hb : b < 2 ^ 31 := by omega) : (x ≤ y → A) ∧ (¬ x ≤ y → B) := by
  subst hx hy
  rw [nI_leI ha hb]
  exact ⟨f, fun z => g (by omega)⟩
theorem pk_lt {x y : Int32} {A B : Prop} (a b : Nat) (f : a < b → A) (g : b ≤ a → B) (hx : x = nI a := by rfl) (hy : y = nI b := by rfl) (ha : a < 2 ^ 31 := by omega) (hb : b < 2 ^ 31 := by omega) : (x < y → A) ∧ (¬ x < y → B) := by
  subst hx hy
  rw [nI_ltI ha hb]
  exact ⟨f, fun z => g (by omega)⟩
theorem pk_eq {x y : Int32} {A B : Prop} (a b : Nat) (f : a = b → A) (g : a ≠ b → B) (hx : x = nI a := by rfl) (hy : y = nI b := by rfl) (ha : a < 2 ^ 31 := by omega) (hb : b < 2 ^ 31 := by omega) : (x = y → A) ∧ (¬ x = y → B) := by
  subst hx hy
  rw [nI_eq ha hb]
  exact ⟨f, g⟩
theorem pk_in {x : Int32} (n N : Nat) (h : n < N) (hx : x = nI n := by rfl) (hN : N < 2 ^ 31 := by omega) : vp_in x N := by
  subst hx
  exact vp_in_nI h hN
theorem pk_cl {x : Int32} (n : Nat) (hx : x = nI n := by rfl) (h : n < 2 ^ 31 := by omega) : x.toNatClampNeg = n := by
  subst hx
  exact nI_clamp h
theorem pk_tn {n : Nat} (h : n < 2 ^ 32) : (nI n).toBitVec.toNat = n := Nat.mod_eq_of_lt h
theorem pk_and (x : Int32) {m : Int32} (k : Nat) (hm : m.toBitVec.toNat = 2 ^ k - 1) : x &&& m = nI (x.toBitVec.toNat % 2 ^ k) := by
  apply Int32.toBitVec_inj.mp
  apply BitVec.eq_of_toNat_eq
  rw [Int32.toBitVec_and, BitVec.toNat_and, hm, Nat.and_two_pow_sub_one_eq_mod]
  show _ = (BitVec.ofNat 32 _).toNat
  rw [BitVec.toNat_ofNat]
  exact (Nat.mod_eq_of_lt (Nat.lt_of_le_of_lt (Nat.mod_le _ _) x.toBitVec.isLt)).symm
theorem pk_andN {n : Nat} (h : n < 2 ^ 32) {m : Int32} (k : Nat) (hm : m.toBitVec.toNat = 2 ^ k - 1) : nI n &&& m = nI (n % 2 ^ k) := by
  rw [pk_and _ k hm, pk_tn h]
theorem pk_andE (x : Int32) {m : Int32} (k : Nat) (hm : m.toBitVec.toNat = 2 ^ k - 1) : ∃ j : Nat, j < 2 ^ k ∧ x &&& m = nI j := ⟨_, Nat.mod_lt _ (Nat.two_pow_pos k), pk_and x k hm⟩
theorem pk_shl (a s : Int32) (k : Nat) (hs : (s.toBitVec.smod 32).toNat = k) : (a <<< s).toBitVec.toNat = a.toBitVec.toNat * 2 ^ k % 2 ^ 32 := by
  show (a.toBitVec <<< (s.toBitVec.smod 32).toNat).toNat = _
  rw [hs, BitVec.toNat_shiftLeft, Nat.shiftLeft_eq]
theorem pk_shlN {n : Nat} (s : Int32) (k : Nat) (hs : (s.toBitVec.smod 32).toNat = k) (h : n * 2 ^ k < 2 ^ 32) : nI n <<< s = nI (n * 2 ^ k) := by
  apply Int32.toBitVec_inj.mp
  apply BitVec.eq_of_toNat_eq
  have hn : n < 2 ^ 32 := Nat.lt_of_le_of_lt (Nat.le_mul_of_pos_right n (Nat.two_pow_pos k)) h
  rw [pk_shl _ _ k hs, pk_tn hn, pk_tn h, Nat.mod_eq_of_lt h]
theorem pk_shr (a s : Int32) (k : Nat) (hs : (s.toBitVec.smod 32).toNat = k) : (a >>> s).toInt = a.toInt >>> k := by
  show (a.toBitVec.sshiftRight (s.toBitVec.smod 32).toNat).toInt = _
  rw [hs, BitVec.toInt_sshiftRight]
  rfl
theorem pk_shrN {n : Nat} (h : n < 2 ^ 31) (s : Int32) (k : Nat) (hs : (s.toBitVec.smod 32).toNat = k) : nI n >>> s = nI (n / 2 ^ k) := by
  apply Int32.toInt_inj.mp
  have h2 : n / 2 ^ k ≤ n := Nat.div_le_self _ _
  rw [pk_shr _ _ k hs, nI_toInt h, nI_toInt (by omega), Int.shiftRight_eq_div_pow]
  rfl
theorem ek_if {c d A B : Prop} (e : c ↔ d) (f : d → A) (g : ¬ d → B) : (c → A) ∧ (¬ c → B) :=
  ⟨fun z => f (e.mp z), fun z => g (fun y => z (e.mpr y))⟩
theorem ek_v {α : Sort _} {P : α → Prop} {a b : α} (e : a = b) (h : P b) : P a := e ▸ h
def bt (x : Int32) (i : Nat) : Bool := x.toBitVec.getLsbD i
theorem b_ext {x y : Int32} (h : ∀ i, i < 32 → bt x i = bt y i) : x = y := Int32.toBitVec_inj.mp (BitVec.eq_of_getLsbD_eq (fun i hi => h i hi))
theorem b_or (x y : Int32) (i : Nat) : bt (x ||| y) i = (bt x i || bt y i) := by unfold bt; rw [Int32.toBitVec_or, BitVec.getLsbD_or]
theorem b_and (x y : Int32) (i : Nat) : bt (x &&& y) i = (bt x i && bt y i) := by unfold bt; rw [Int32.toBitVec_and, BitVec.getLsbD_and]
theorem b_xor (x y : Int32) (i : Nat) : bt (x ^^^ y) i = (bt x i ^^ bt y i) := by unfold bt; rw [Int32.toBitVec_xor, BitVec.getLsbD_xor]
theorem b_big {x : Int32} {i : Nat} (h : 32 ≤ i) : bt x i = false := BitVec.getLsbD_of_ge _ _ h
theorem b_255 (i : Nat) : bt 255 i = decide (i < 8) := by
  rcases Nat.lt_or_ge i 32 with h | h
  · exact (by decide +kernel : ∀ i, i < 32 → bt 255 i = decide (i < 8)) i h
  · rw [b_big h, decide_eq_false (by omega)]
theorem b_m1 : ∀ i, i < 32 → bt (-1) i = true := by decide +kernel
theorem b_0 (i : Nat) : bt 0 i = false := BitVec.getLsbD_zero
theorem s_l : ∀ n, n < 32 → ((nI n &&& 31).toBitVec.smod 32).toNat = n := by decide +kernel
theorem b_shl (n : Nat) (hn : n < 32) (x : Int32) {i : Nat} (hi : i < 32) : bt (x <<< (nI n &&& 31)) i = (decide (n ≤ i) && bt x (i - n)) := by
  unfold bt
  rw [Int32.toBitVec_shiftLeft]
  show (x.toBitVec <<< ((nI n &&& 31).toBitVec.smod 32).toNat).getLsbD i = _
  rw [s_l n hn, BitVec.getLsbD_shiftLeft]
  rcases Nat.lt_or_ge i n with h | h
  · simp [h, Nat.not_le.mpr h]
  · simp [hi, h, Nat.not_lt.mpr h]
theorem b_sshr (n : Nat) (hn : n < 32) (x : Int32) {i : Nat} (hi : i < 32) : bt (x >>> (nI n &&& 31)) i = if n + i < 32 then bt x (n + i) else bt x 31 := by
  unfold bt
  rw [Int32.toBitVec_shiftRight]
  show (x.toBitVec.sshiftRight ((nI n &&& 31).toBitVec.smod 32).toNat).getLsbD i = _
  rw [s_l n hn, BitVec.getLsbD_sshiftRight, BitVec.msb_eq_getLsbD_last]
  simp [hi]
end
section
/-! keys: X packs three bits a letter, the first letter highest; Y counts base 7, the first letter lowest -/
def bq_d (p i : Nat) : Nat := if i = 0 then p / 512 % 8 else if i = 1 then p / 64 % 8 else if i = 2 then p / 8 % 8 else p % 8
def bq_V (p : Nat) : Prop := p < 4096 ∧ p / 512 % 8 < 7 ∧ p / 64 % 8 < 7 ∧ p / 8 % 8 < 7 ∧ p % 8 < 7
def bq_c (p : Nat) : Nat := p / 512 % 8 + p / 64 % 8 * 7 + p / 8 % 8 * 49 + p % 8 * 343
def bq_f (p n : Nat) : Nat := if n = 0 then p / 4096 * 4096 else if n = 1 then p / 512 * 512 else if n = 2 then p / 64 * 64 else if n = 3 then p / 8 * 8 else p
/-- the buffer of l letters -/
def bq_B (b l : Nat) : Prop := bq_V b ∧ l ≤ 4 ∧ bq_f b l = b ∧ (l = 0 ∨ 512 ≤ b)
theorem bq_i4 {P : Nat → Prop} (h0 : P 0) (h1 : P 1) (h2 : P 2) (h3 : P 3) {i : Nat} (hi : i < 4) : P i := by
  obtain rfl | rfl | rfl | rfl : i = 0 ∨ i = 1 ∨ i = 2 ∨ i = 3 := by omega
  · exact h0
  · exact h1
  · exact h2
  · exact h3
theorem bq_i5 {P : Nat → Prop} (h0 : P 0) (h1 : P 1) (h2 : P 2) (h3 : P 3) (h4 : P 4) {i : Nat} (hi : i ≤ 4) : P i := by
  obtain rfl | rfl | rfl | rfl | rfl : i = 0 ∨ i = 1 ∨ i = 2 ∨ i = 3 ∨ i = 4 := by omega
  · exact h0
  · exact h1
  · exact h2
  · exact h3
  · exact h4
theorem bq_V0 : bq_V 0 := by unfold bq_V; decide +kernel
theorem bq_c0 : bq_c 0 = 0 := by decide
theorem bq_sum {p : Nat} (h : p < 4096) : p = 512 * (p / 512 % 8) + 64 * (p / 64 % 8) + 8 * (p / 8 % 8) + p % 8 := by omega
theorem bq_dg {p : Nat} (h : bq_V p) : bq_c p % 7 = p / 512 % 8 ∧ bq_c p / 7 % 7 = p / 64 % 8 ∧ bq_c p / 49 % 7 = p / 8 % 8 ∧ bq_c p / 343 % 7 = p % 8 ∧ bq_c p < 2401 := by
  obtain ⟨_, h0, h1, h2, h3⟩ := h
  unfold bq_c
  generalize p / 512 % 8 = a at *
  generalize p / 64 % 8 = b at *
  generalize p / 8 % 8 = c at *
  generalize p % 8 = d at *
  refine ⟨?_, ?_, ?_, ?_, ?_⟩ <;> omega
theorem bq_lt {p : Nat} (h : bq_V p) : bq_c p < 2401 := (bq_dg h).2.2.2.2
theorem bq_inj {p q : Nat} (hp : bq_V p) (hq : bq_V q) (h : bq_c p = bq_c q) : p = q := by
  obtain ⟨a0, a1, a2, a3, _⟩ := bq_dg hp
  obtain ⟨b0, b1, b2, b3, _⟩ := bq_dg hq
  rw [h] at a0 a1 a2 a3
  rw [bq_sum hp.1, bq_sum hq.1, ← a0, ← a1, ← a2, ← a3, b0, b1, b2, b3]
theorem bq_pos {p : Nat} (hp : bq_V p) (h : p ≠ 0) : 0 < bq_c p := by
  rcases Nat.eq_zero_or_pos (bq_c p) with e | e
  · exact absurd (bq_inj hp bq_V0 (e.trans bq_c0.symm)) h
  · exact e
theorem bq_dlt {p : Nat} (hp : bq_V p) (i : Nat) : bq_d p i < 7 := by
  obtain ⟨_, h0, h1, h2, h3⟩ := hp
  unfold bq_d
  split
  · exact h0
  · split
    · exact h1
    · split
      · exact h2
      · exact h3
/-- the order of two keys, place by place -/
theorem bq_lex {p q : Nat} (hp : p < 4096) (hq : q < 4096) {i : Nat} (hi : i < 4) (he : ∀ j, j < i → bq_d p j = bq_d q j) (hn : bq_d p i ≠ bq_d q i) : bq_d p i < bq_d q i ↔ p < q := by
  have e0 : 0 < i → p / 512 % 8 = q / 512 % 8 := fun h => he 0 h
  have e1 : 1 < i → p / 64 % 8 = q / 64 % 8 := fun h => he 1 h
  have e2 : 2 < i → p / 8 % 8 = q / 8 % 8 := fun h => he 2 h
  have sp := bq_sum hp
  have sq := bq_sum hq
  have u0 : p / 64 % 8 < 8 := Nat.mod_lt _ (by decide)
  have u1 : q / 64 % 8 < 8 := Nat.mod_lt _ (by decide)
  have u2 : p / 8 % 8 < 8 := Nat.mod_lt _ (by decide)
  have u3 : q / 8 % 8 < 8 := Nat.mod_lt _ (by decide)
  have u4 : p % 8 < 8 := Nat.mod_lt _ (by decide)
  have u5 : q % 8 < 8 := Nat.mod_lt _ (by decide)
  clear he
  revert hn
  revert e2
  revert e1
  revert e0
  refine bq_i4 (P := fun i => (0 < i → p / 512 % 8 = q / 512 % 8) → (1 < i → p / 64 % 8 = q / 64 % 8) → (2 < i → p / 8 % 8 = q / 8 % 8) → bq_d p i ≠ bq_d q i → (bq_d p i < bq_d q i ↔ p < q)) ?_ ?_ ?_ ?_ hi
  · show _ → _ → _ → p / 512 % 8 ≠ q / 512 % 8 → (p / 512 % 8 < q / 512 % 8 ↔ p < q)
    intro _ _ _ hn
    generalize p / 512 % 8 = a at *
    generalize p / 64 % 8 = b at *
    generalize p / 8 % 8 = c at *
    generalize p % 8 = d at *
    generalize q / 512 % 8 = a' at *
    generalize q / 64 % 8 = b' at *
    generalize q / 8 % 8 = c' at *
    generalize q % 8 = d' at *
    omega
  · show _ → _ → _ → p / 64 % 8 ≠ q / 64 % 8 → (p / 64 % 8 < q / 64 % 8 ↔ p < q)
    intro e0 _ _ hn
    have e0 := e0 (by decide)
    generalize p / 512 % 8 = a at *
    generalize p / 64 % 8 = b at *
    generalize p / 8 % 8 = c at *
    generalize p % 8 = d at *
    generalize q / 512 % 8 = a' at *
    generalize q / 64 % 8 = b' at *
    generalize q / 8 % 8 = c' at *
    generalize q % 8 = d' at *
    omega
  · show _ → _ → _ → p / 8 % 8 ≠ q / 8 % 8 → (p / 8 % 8 < q / 8 % 8 ↔ p < q)
    intro e0 e1 _ hn
    have e0 := e0 (by decide)
    have e1 := e1 (by decide)
    generalize p / 512 % 8 = a at *
    generalize p / 64 % 8 = b at *
    generalize p / 8 % 8 = c at *
    generalize p % 8 = d at *
    generalize q / 512 % 8 = a' at *
    generalize q / 64 % 8 = b' at *
    generalize q / 8 % 8 = c' at *
    generalize q % 8 = d' at *
    omega
  · show _ → _ → _ → p % 8 ≠ q % 8 → (p % 8 < q % 8 ↔ p < q)
    intro e0 e1 e2 hn
    have e0 := e0 (by decide)
    have e1 := e1 (by decide)
    have e2 := e2 (by decide)
    generalize p / 512 % 8 = a at *
    generalize p / 64 % 8 = b at *
    generalize p / 8 % 8 = c at *
    generalize p % 8 = d at *
    generalize q / 512 % 8 = a' at *
    generalize q / 64 % 8 = b' at *
    generalize q / 8 % 8 = c' at *
    generalize q % 8 = d' at *
    omega
theorem bq_dall {p q : Nat} (hp : p < 4096) (hq : q < 4096) (h : ∀ j, j < 4 → bq_d p j = bq_d q j) : p = q := by
  have e0 : p / 512 % 8 = q / 512 % 8 := h 0 (by decide)
  have e1 : p / 64 % 8 = q / 64 % 8 := h 1 (by decide)
  have e2 : p / 8 % 8 = q / 8 % 8 := h 2 (by decide)
  have e3 : p % 8 = q % 8 := h 3 (by decide)
  rw [bq_sum hp, bq_sum hq, e0, e1, e2, e3]
/-- a key begins with the buffer -/
theorem bq_pre {p b l : Nat} (hp : p < 4096) (hB : bq_B b l) : bq_f p l = b ↔ ∀ j, j < l → bq_d p j = bq_d b j := by
  obtain ⟨⟨hb, _⟩, hl, hf, _⟩ := hB
  have sp := bq_sum hp
  have sb := bq_sum hb
  revert hf
  refine bq_i5 (P := fun l => bq_f b l = b → (bq_f p l = b ↔ ∀ j, j < l → bq_d p j = bq_d b j)) ?_ ?_ ?_ ?_ ?_ hl
  · show b / 4096 * 4096 = b → (p / 4096 * 4096 = b ↔ _)
    intro hf
    exact ⟨fun _ j hj => absurd hj (by omega), fun _ => by omega⟩
  · show b / 512 * 512 = b → (p / 512 * 512 = b ↔ _)
    intro hf
    constructor
    · intro e j hj
      obtain rfl : j = 0 := by omega
      show p / 512 % 8 = b / 512 % 8
      omega
    · intro h
      have h0 : p / 512 % 8 = b / 512 % 8 := h 0 (by decide)
      omega
  · show b / 64 * 64 = b → (p / 64 * 64 = b ↔ _)
    intro hf
    constructor
    · intro e j hj
      obtain rfl | rfl : j = 0 ∨ j = 1 := by omega
      · show p / 512 % 8 = b / 512 % 8
        omega
      · show p / 64 % 8 = b / 64 % 8
        omega
    · intro h
      have h0 : p / 512 % 8 = b / 512 % 8 := h 0 (by decide)
      have h1 : p / 64 % 8 = b / 64 % 8 := h 1 (by decide)
      omega
  · show b / 8 * 8 = b → (p / 8 * 8 = b ↔ _)
    intro hf
    constructor
    · intro e j hj
      obtain rfl | rfl | rfl : j = 0 ∨ j = 1 ∨ j = 2 := by omega
      · show p / 512 % 8 = b / 512 % 8
        omega
      · show p / 64 % 8 = b / 64 % 8
        omega
      · show p / 8 % 8 = b / 8 % 8
        omega
    · intro h
      have h0 : p / 512 % 8 = b / 512 % 8 := h 0 (by decide)
      have h1 : p / 64 % 8 = b / 64 % 8 := h 1 (by decide)
      have h2 : p / 8 % 8 = b / 8 % 8 := h 2 (by decide)
      omega
  · show b = b → (p = b ↔ _)
    intro _
    exact ⟨fun e j _ => by rw [e], fun h => bq_dall hp hb h⟩
/-- one letter more -/
theorem bq_typ {b l t : Nat} (hB : bq_B b l) (hl : l < 4) (ht : t < 6) : bq_B (b + (t + 1) * 2 ^ (9 - 3 * l)) (l + 1) ∧ bq_c (b + (t + 1) * 2 ^ (9 - 3 * l)) = bq_c b + (t + 1) * 7 ^ l ∧ 2 ^ (12 - 3 * l) * (b / 2 ^ (12 - 3 * l)) = b ∧ (t + 1) * 2 ^ (9 - 3 * l) < 2 ^ (12 - 3 * l) := by
  obtain ⟨⟨hb, d0, d1, d2, d3⟩, _, hf, hz⟩ := hB
  obtain rfl | rfl | rfl | rfl : l = 0 ∨ l = 1 ∨ l = 2 ∨ l = 3 := by omega
  · have hf : b / 4096 * 4096 = b := hf
    obtain rfl : b = 0 := by omega
    clear hf hz hb d0 d1 d2 d3
    obtain rfl | rfl | rfl | rfl | rfl | rfl : t = 0 ∨ t = 1 ∨ t = 2 ∨ t = 3 ∨ t = 4 ∨ t = 5 := by omega
    all_goals (refine ⟨⟨?_, ?_, ?_, ?_⟩, ?_, ?_, ?_⟩ <;> (try unfold bq_V) <;> decide +kernel)
  · have hf : b / 512 * 512 = b := hf
    show (_ ∧ _ ∧ (b + (t + 1) * 64) / 64 * 64 = b + (t + 1) * 64 ∧ _) ∧ _ ∧ 512 * (b / 512) = b ∧ (t + 1) * 64 < 512
    refine ⟨⟨?_, by decide, ?_, ?_⟩, ?_, ?_, ?_⟩
    · show (b + (t + 1) * 64) < 4096 ∧ (b + (t + 1) * 64) / 512 % 8 < 7 ∧ (b + (t + 1) * 64) / 64 % 8 < 7 ∧ (b + (t + 1) * 64) / 8 % 8 < 7 ∧ (b + (t + 1) * 64) % 8 < 7
      refine ⟨?_, ?_, ?_, ?_, ?_⟩ <;> omega
    · omega
    · right
      show 512 ≤ b + (t + 1) * 64
      omega
    · show (b + (t + 1) * 64) / 512 % 8 + (b + (t + 1) * 64) / 64 % 8 * 7 + (b + (t + 1) * 64) / 8 % 8 * 49 + (b + (t + 1) * 64) % 8 * 343 = b / 512 % 8 + b / 64 % 8 * 7 + b / 8 % 8 * 49 + b % 8 * 343 + (t + 1) * 7
      omega
    · omega
    · omega
  · have hf : b / 64 * 64 = b := hf
    show (_ ∧ _ ∧ (b + (t + 1) * 8) / 8 * 8 = b + (t + 1) * 8 ∧ _) ∧ _ ∧ 64 * (b / 64) = b ∧ (t + 1) * 8 < 64
    refine ⟨⟨?_, by decide, ?_, ?_⟩, ?_, ?_, ?_⟩
    · show (b + (t + 1) * 8) < 4096 ∧ (b + (t + 1) * 8) / 512 % 8 < 7 ∧ (b + (t + 1) * 8) / 64 % 8 < 7 ∧ (b + (t + 1) * 8) / 8 % 8 < 7 ∧ (b + (t + 1) * 8) % 8 < 7
      refine ⟨?_, ?_, ?_, ?_, ?_⟩ <;> omega
    · omega
    · right
      show 512 ≤ b + (t + 1) * 8
      omega
    · show (b + (t + 1) * 8) / 512 % 8 + (b + (t + 1) * 8) / 64 % 8 * 7 + (b + (t + 1) * 8) / 8 % 8 * 49 + (b + (t + 1) * 8) % 8 * 343 = b / 512 % 8 + b / 64 % 8 * 7 + b / 8 % 8 * 49 + b % 8 * 343 + (t + 1) * 49
      omega
    · omega
    · omega
  · have hf : b / 8 * 8 = b := hf
    show (_ ∧ _ ∧ b + (t + 1) * 1 = b + (t + 1) * 1 ∧ _) ∧ _ ∧ 8 * (b / 8) = b ∧ (t + 1) * 1 < 8
    refine ⟨⟨?_, by decide, ?_, ?_⟩, ?_, ?_, ?_⟩
    · show (b + (t + 1) * 1) < 4096 ∧ (b + (t + 1) * 1) / 512 % 8 < 7 ∧ (b + (t + 1) * 1) / 64 % 8 < 7 ∧ (b + (t + 1) * 1) / 8 % 8 < 7 ∧ (b + (t + 1) * 1) % 8 < 7
      refine ⟨?_, ?_, ?_, ?_, ?_⟩ <;> omega
    · omega
    · right
      show 512 ≤ b + (t + 1) * 1
      omega
    · show (b + (t + 1) * 1) / 512 % 8 + (b + (t + 1) * 1) / 64 % 8 * 7 + (b + (t + 1) * 1) / 8 % 8 * 49 + (b + (t + 1) * 1) % 8 * 343 = b / 512 % 8 + b / 64 % 8 * 7 + b / 8 % 8 * 49 + b % 8 * 343 + (t + 1) * 343
      omega
    · omega
    · omega
/-- a key cut off behind its place i, where the folder's letter stands -/
theorem bq_cut {p i : Nat} (hp : bq_V p) (hi : i < 4) : bq_V (bq_f p (i + 1)) ∧ bq_c (bq_f p (i + 1)) = bq_c p % 7 ^ (i + 1) ∧ (bq_d p i = 6 → bq_f p (i + 1) ≠ 0) := by
  obtain ⟨hb, d0, d1, d2, d3⟩ := hp
  obtain rfl | rfl | rfl | rfl : i = 0 ∨ i = 1 ∨ i = 2 ∨ i = 3 := by omega
  · refine ⟨?_, ?_, ?_⟩
    · show (p / 512 * 512) < 4096 ∧ (p / 512 * 512) / 512 % 8 < 7 ∧ (p / 512 * 512) / 64 % 8 < 7 ∧ (p / 512 * 512) / 8 % 8 < 7 ∧ (p / 512 * 512) % 8 < 7
      refine ⟨?_, ?_, ?_, ?_, ?_⟩ <;> omega
    · show (p / 512 * 512) / 512 % 8 + (p / 512 * 512) / 64 % 8 * 7 + (p / 512 * 512) / 8 % 8 * 49 + (p / 512 * 512) % 8 * 343 = (p / 512 % 8 + p / 64 % 8 * 7 + p / 8 % 8 * 49 + p % 8 * 343) % 7
      have e0 : (p / 512 * 512) / 512 % 8 = p / 512 % 8 := by omega
      have e1 : (p / 512 * 512) / 64 % 8 = 0 := by omega
      have e2 : (p / 512 * 512) / 8 % 8 = 0 := by omega
      have e3 : (p / 512 * 512) % 8 = 0 := by omega
      rw [e0, e1, e2, e3]
      clear e0 e1 e2 e3
      generalize p / 512 % 8 = x at *
      generalize p / 64 % 8 = y at *
      generalize p / 8 % 8 = z at *
      generalize p % 8 = t at *
      omega
    · show p / 512 % 8 = 6 → p / 512 * 512 ≠ 0
      omega
  · refine ⟨?_, ?_, ?_⟩
    · show (p / 64 * 64) < 4096 ∧ (p / 64 * 64) / 512 % 8 < 7 ∧ (p / 64 * 64) / 64 % 8 < 7 ∧ (p / 64 * 64) / 8 % 8 < 7 ∧ (p / 64 * 64) % 8 < 7
      refine ⟨?_, ?_, ?_, ?_, ?_⟩ <;> omega
    · show (p / 64 * 64) / 512 % 8 + (p / 64 * 64) / 64 % 8 * 7 + (p / 64 * 64) / 8 % 8 * 49 + (p / 64 * 64) % 8 * 343 = (p / 512 % 8 + p / 64 % 8 * 7 + p / 8 % 8 * 49 + p % 8 * 343) % 49
      have e0 : (p / 64 * 64) / 512 % 8 = p / 512 % 8 := by omega
      have e1 : (p / 64 * 64) / 64 % 8 = p / 64 % 8 := by omega
      have e2 : (p / 64 * 64) / 8 % 8 = 0 := by omega
      have e3 : (p / 64 * 64) % 8 = 0 := by omega
      rw [e0, e1, e2, e3]
      clear e0 e1 e2 e3
      generalize p / 512 % 8 = x at *
      generalize p / 64 % 8 = y at *
      generalize p / 8 % 8 = z at *
      generalize p % 8 = t at *
      omega
    · show p / 64 % 8 = 6 → p / 64 * 64 ≠ 0
      omega
  · refine ⟨?_, ?_, ?_⟩
    · show (p / 8 * 8) < 4096 ∧ (p / 8 * 8) / 512 % 8 < 7 ∧ (p / 8 * 8) / 64 % 8 < 7 ∧ (p / 8 * 8) / 8 % 8 < 7 ∧ (p / 8 * 8) % 8 < 7
      refine ⟨?_, ?_, ?_, ?_, ?_⟩ <;> omega
    · show (p / 8 * 8) / 512 % 8 + (p / 8 * 8) / 64 % 8 * 7 + (p / 8 * 8) / 8 % 8 * 49 + (p / 8 * 8) % 8 * 343 = (p / 512 % 8 + p / 64 % 8 * 7 + p / 8 % 8 * 49 + p % 8 * 343) % 343
      have e0 : (p / 8 * 8) / 512 % 8 = p / 512 % 8 := by omega
      have e1 : (p / 8 * 8) / 64 % 8 = p / 64 % 8 := by omega
      have e2 : (p / 8 * 8) / 8 % 8 = p / 8 % 8 := by omega
      have e3 : (p / 8 * 8) % 8 = 0 := by omega
      rw [e0, e1, e2, e3]
      clear e0 e1 e2 e3
      generalize p / 512 % 8 = x at *
      generalize p / 64 % 8 = y at *
      generalize p / 8 % 8 = z at *
      generalize p % 8 = t at *
      omega
    · show p / 8 % 8 = 6 → p / 8 * 8 ≠ 0
      omega
  · refine ⟨⟨hb, d0, d1, d2, d3⟩, ?_, ?_⟩
    · show bq_c p = bq_c p % 2401
      exact (Nat.mod_eq_of_lt (bq_lt ⟨hb, d0, d1, d2, d3⟩)).symm
    · show p % 8 = 6 → p ≠ 0
      omega
end
