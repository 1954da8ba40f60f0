/-! keys: X packs three bits a letter, the first letter highest; Y counts base 7, the first letter lowest -/
def bq_d (p i : Nat) : Nat := if i = 0 then p / 512 % 8 else if i = 1 then p / 64 % 8 else if i = 2 then p / 8 % 8 else p % 8
def bq_V (p : Nat) : Prop := p < 4096 ∧ p / 512 % 8 < 7 ∧ p / 64 % 8 < 7 ∧ p / 8 % 8 < 7 ∧ p % 8 < 7
def bq_c (p : Nat) : Nat := p / 512 % 8 + p / 64 % 8 * 7 + p / 8 % 8 * 49 + p % 8 * 343
def bq_f (p n : Nat) : Nat := if n = 0 then p / 4096 * 4096 else if n = 1 then p / 512 * 512 else if n = 2 then p / 64 * 64 else if n = 3 then p / 8 * 8 else p
/-- the buffer of l letters -/
def bq_B (b l : Nat) : Prop := bq_V b ∧ l ≤ 4 ∧ bq_f b l = b ∧ (l = 0 ∨ 512 ≤ b)
theorem bq_i4 {P : Nat → Prop} (h0 : P 0) (h1 : P 1) (h2 : P 2) (h3 : P 3) {i : Nat} (hi : i < 4) : P i := by
  obtain rfl | rfl | rfl | rfl : i = 0 ∨ i = 1 ∨ i = 2 ∨ i = 3 := by omega
  · exact h0
  · exact h1
  · exact h2
  · exact h3
theorem bq_i5 {P : Nat → Prop} (h0 : P 0) (h1 : P 1) (h2 : P 2) (h3 : P 3) (h4 : P 4) {i : Nat} (hi : i ≤ 4) : P i := by
  obtain rfl | rfl | rfl | rfl | rfl : i = 0 ∨ i = 1 ∨ i = 2 ∨ i = 3 ∨ i = 4 := by omega
  · exact h0
  · exact h1
  · exact h2
  · exact h3
  · exact h4
theorem bq_V0 : bq_V 0 := by unfold bq_V; decide +kernel
theorem bq_c0 : bq_c 0 = 0 := by decide
theorem bq_sum {p : Nat} (h : p < 4096) : p = 512 * (p / 512 % 8) + 64 * (p / 64 % 8) + 8 * (p / 8 % 8) + p % 8 := by omega
theorem bq_dg {p : Nat} (h : bq_V p) : bq_c p % 7 = p / 512 % 8 ∧ bq_c p / 7 % 7 = p / 64 % 8 ∧ bq_c p / 49 % 7 = p / 8 % 8 ∧ bq_c p / 343 % 7 = p % 8 ∧ bq_c p < 2401 := by
  obtain ⟨_, h0, h1, h2, h3⟩ := h
  unfold bq_c
  generalize p / 512 % 8 = a at *
  generalize p / 64 % 8 = b at *
  generalize p / 8 % 8 = c at *
  generalize p % 8 = d at *
  refine ⟨?_, ?_, ?_, ?_, ?_⟩ <;> omega
theorem bq_lt {p : Nat} (h : bq_V p) : bq_c p < 2401 := (bq_dg h).2.2.2.2
theorem bq_inj {p q : Nat} (hp : bq_V p) (hq : bq_V q) (h : bq_c p = bq_c q) : p = q := by
  obtain ⟨a0, a1, a2, a3, _⟩ := bq_dg hp
  obtain ⟨b0, b1, b2, b3, _⟩ := bq_dg hq
  rw [h] at a0 a1 a2 a3
  rw [bq_sum hp.1, bq_sum hq.1, ← a0, ← a1, ← a2, ← a3, b0, b1, b2, b3]
theorem bq_pos {p : Nat} (hp : bq_V p) (h : p ≠ 0) : 0 < bq_c p := by
  rcases Nat.eq_zero_or_pos (bq_c p) with e | e
  · exact absurd (bq_inj hp bq_V0 (e.trans bq_c0.symm)) h
  · exact e
theorem bq_dlt {p : Nat} (hp : bq_V p) (i : Nat) : bq_d p i < 7 := by
  obtain ⟨_, h0, h1, h2, h3⟩ := hp
  unfold bq_d
  split
  · exact h0
  · split
    · exact h1
    · split
      · exact h2
      · exact h3
/-- the order of two keys, place by place -/
theorem bq_lex {p q : Nat} (hp : p < 4096) (hq : q < 4096) {i : Nat} (hi : i < 4) (he : ∀ j, j < i → bq_d p j = bq_d q j) (hn : bq_d p i ≠ bq_d q i) : bq_d p i < bq_d q i ↔ p < q := by
  have e0 : 0 < i → p / 512 % 8 = q / 512 % 8 := fun h => he 0 h
  have e1 : 1 < i → p / 64 % 8 = q / 64 % 8 := fun h => he 1 h
  have e2 : 2 < i → p / 8 % 8 = q / 8 % 8 := fun h => he 2 h
  have sp := bq_sum hp
  have sq := bq_sum hq
  have u0 : p / 64 % 8 < 8 := Nat.mod_lt _ (by decide)
  have u1 : q / 64 % 8 < 8 := Nat.mod_lt _ (by decide)
  have u2 : p / 8 % 8 < 8 := Nat.mod_lt _ (by decide)
  have u3 : q / 8 % 8 < 8 := Nat.mod_lt _ (by decide)
  have u4 : p % 8 < 8 := Nat.mod_lt _ (by decide)
  have u5 : q % 8 < 8 := Nat.mod_lt _ (by decide)
  clear he
  revert hn
  revert e2
  revert e1
  revert e0
  refine bq_i4 (P := fun i => (0 < i → p / 512 % 8 = q / 512 % 8) → (1 < i → p / 64 % 8 = q / 64 % 8) → (2 < i → p / 8 % 8 = q / 8 % 8) → bq_d p i ≠ bq_d q i → (bq_d p i < bq_d q i ↔ p < q)) ?_ ?_ ?_ ?_ hi
  · show _ → _ → _ → p / 512 % 8 ≠ q / 512 % 8 → (p / 512 % 8 < q / 512 % 8 ↔ p < q)
    intro _ _ _ hn
    generalize p / 512 % 8 = a at *
    generalize p / 64 % 8 = b at *
    generalize p / 8 % 8 = c at *
    generalize p % 8 = d at *
    generalize q / 512 % 8 = a' at *
    generalize q / 64 % 8 = b' at *
    generalize q / 8 % 8 = c' at *
    generalize q % 8 = d' at *
    omega
  · show _ → _ → _ → p / 64 % 8 ≠ q / 64 % 8 → (p / 64 % 8 < q / 64 % 8 ↔ p < q)
    intro e0 _ _ hn
    have e0 := e0 (by decide)
    generalize p / 512 % 8 = a at *
    generalize p / 64 % 8 = b at *
    generalize p / 8 % 8 = c at *
    generalize p % 8 = d at *
    generalize q / 512 % 8 = a' at *
    generalize q / 64 % 8 = b' at *
    generalize q / 8 % 8 = c' at *
    generalize q % 8 = d' at *
    omega
  · show _ → _ → _ → p / 8 % 8 ≠ q / 8 % 8 → (p / 8 % 8 < q / 8 % 8 ↔ p < q)
    intro e0 e1 _ hn
    have e0 := e0 (by decide)
    have e1 := e1 (by decide)
    generalize p / 512 % 8 = a at *
    generalize p / 64 % 8 = b at *
    generalize p / 8 % 8 = c at *
    generalize p % 8 = d at *
    generalize q / 512 % 8 = a' at *
    generalize q / 64 % 8 = b' at *
    generalize q / 8 % 8 = c' at *
    generalize q % 8 = d' at *
    omega
  · show _ → _ → _ → p % 8 ≠ q % 8 → (p % 8 < q % 8 ↔ p < q)
    intro e0 e1 e2 hn
    have e0 := e0 (by decide)
    have e1 := e1 (by decide)
    have e2 := e2 (by decide)
    generalize p / 512 % 8 = a at *
    generalize p / 64 % 8 = b at *
    generalize p / 8 % 8 = c at *
    generalize p % 8 = d at *
    generalize q / 512 % 8 = a' at *
    generalize q / 64 % 8 = b' at *
    generalize q / 8 % 8 = c' at *
    generalize q % 8 = d' at *
    omega
theorem bq_dall {p q : Nat} (hp : p < 4096) (hq : q < 4096) (h : ∀ j, j < 4 → bq_d p j = bq_d q j) : p = q := by
  have e0 : p / 512 % 8 = q / 512 % 8 := h 0 (by decide)
  have e1 : p / 64 % 8 = q / 64 % 8 := h 1 (by decide)
  have e2 : p / 8 % 8 = q / 8 % 8 := h 2 (by decide)
  have e3 : p % 8 = q % 8 := h 3 (by decide)
  rw [bq_sum hp, bq_sum hq, e0, e1, e2, e3]
/-- a key begins with the buffer -/
theorem bq_pre {p b l : Nat} (hp : p < 4096) (hB : bq_B b l) : bq_f p l = b ↔ ∀ j, j < l → bq_d p j = bq_d b j := by
  obtain ⟨⟨hb, _⟩, hl, hf, _⟩ := hB
  have sp := bq_sum hp
  have sb := bq_sum hb
  revert hf
  refine bq_i5 (P := fun l => bq_f b l = b → (bq_f p l = b ↔ ∀ j, j < l → bq_d p j = bq_d b j)) ?_ ?_ ?_ ?_ ?_ hl
  · show b / 4096 * 4096 = b → (p / 4096 * 4096 = b ↔ _)
    intro hf
    exact ⟨fun _ j hj => absurd hj (by omega), fun _ => by omega⟩
  · show b / 512 * 512 = b → (p / 512 * 512 = b ↔ _)
    intro hf
    constructor
    · intro e j hj
      obtain rfl : j = 0 := by omega
      show p / 512 % 8 = b / 512 % 8
      omega
    · intro h
      have h0 : p / 512 % 8 = b / 512 % 8 := h 0 (by decide)
      omega
  · show b / 64 * 64 = b → (p / 64 * 64 = b ↔ _)
    intro hf
    constructor
    · intro e j hj
      obtain rfl | rfl : j = 0 ∨ j = 1 := by omega
      · show p / 512 % 8 = b / 512 % 8
        omega
      · show p / 64 % 8 = b / 64 % 8
        omega
    · intro h
      have h0 : p / 512 % 8 = b / 512 % 8 := h 0 (by decide)
      have h1 : p / 64 % 8 = b / 64 % 8 := h 1 (by decide)
      omega
  · show b / 8 * 8 = b → (p / 8 * 8 = b ↔ _)
    intro hf
    constructor
    · intro e j hj
      obtain rfl | rfl | rfl : j = 0 ∨ j = 1 ∨ j = 2 := by omega
      · show p / 512 % 8 = b / 512 % 8
        omega
      · show p / 64 % 8 = b / 64 % 8
        omega
      · show p / 8 % 8 = b / 8 % 8
        omega
    · intro h
      have h0 : p / 512 % 8 = b / 512 % 8 := h 0 (by decide)
      have h1 : p / 64 % 8 = b / 64 % 8 := h 1 (by decide)
      have h2 : p / 8 % 8 = b / 8 % 8 := h 2 (by decide)
      omega
  · show b = b → (p = b ↔ _)
    intro _
    exact ⟨fun e j _ => by rw [e], fun h => bq_dall hp hb h⟩
/-- one letter more -/
theorem bq_typ {b l t : Nat} (hB : bq_B b l) (hl : l < 4) (ht : t < 6) : bq_B (b + (t + 1) * 2 ^ (9 - 3 * l)) (l + 1) ∧ bq_c (b + (t + 1) * 2 ^ (9 - 3 * l)) = bq_c b + (t + 1) * 7 ^ l ∧ 2 ^ (12 - 3 * l) * (b / 2 ^ (12 - 3 * l)) = b ∧ (t + 1) * 2 ^ (9 - 3 * l) < 2 ^ (12 - 3 * l) := by
  obtain ⟨⟨hb, d0, d1, d2, d3⟩, _, hf, hz⟩ := hB
  obtain rfl | rfl | rfl | rfl : l = 0 ∨ l = 1 ∨ l = 2 ∨ l = 3 := by omega
  · have hf : b / 4096 * 4096 = b := hf
    obtain rfl : b = 0 := by omega
    clear hf hz hb d0 d1 d2 d3
    obtain rfl | rfl | rfl | rfl | rfl | rfl : t = 0 ∨ t = 1 ∨ t = 2 ∨ t = 3 ∨ t = 4 ∨ t = 5 := by omega
    all_goals (refine ⟨⟨?_, ?_, ?_, ?_⟩, ?_, ?_, ?_⟩ <;> (try unfold bq_V) <;> decide +kernel)
  · have hf : b / 512 * 512 = b := hf
    show (_ ∧ _ ∧ (b + (t + 1) * 64) / 64 * 64 = b + (t + 1) * 64 ∧ _) ∧ _ ∧ 512 * (b / 512) = b ∧ (t + 1) * 64 < 512
    refine ⟨⟨?_, by decide, ?_, ?_⟩, ?_, ?_, ?_⟩
    · show (b + (t + 1) * 64) < 4096 ∧ (b + (t + 1) * 64) / 512 % 8 < 7 ∧ (b + (t + 1) * 64) / 64 % 8 < 7 ∧ (b + (t + 1) * 64) / 8 % 8 < 7 ∧ (b + (t + 1) * 64) % 8 < 7
      refine ⟨?_, ?_, ?_, ?_, ?_⟩ <;> omega
    · omega
    · right
      show 512 ≤ b + (t + 1) * 64
      omega
    · show (b + (t + 1) * 64) / 512 % 8 + (b + (t + 1) * 64) / 64 % 8 * 7 + (b + (t + 1) * 64) / 8 % 8 * 49 + (b + (t + 1) * 64) % 8 * 343 = b / 512 % 8 + b / 64 % 8 * 7 + b / 8 % 8 * 49 + b % 8 * 343 + (t + 1) * 7
      omega
    · omega
    · omega
  · have hf : b / 64 * 64 = b := hf
    show (_ ∧ _ ∧ (b + (t + 1) * 8) / 8 * 8 = b + (t + 1) * 8 ∧ _) ∧ _ ∧ 64 * (b / 64) = b ∧ (t + 1) * 8 < 64
    refine ⟨⟨?_, by decide, ?_, ?_⟩, ?_, ?_, ?_⟩
    · show (b + (t + 1) * 8) < 4096 ∧ (b + (t + 1) * 8) / 512 % 8 < 7 ∧ (b + (t + 1) * 8) / 64 % 8 < 7 ∧ (b + (t + 1) * 8) / 8 % 8 < 7 ∧ (b + (t + 1) * 8) % 8 < 7
      refine ⟨?_, ?_, ?_, ?_, ?_⟩ <;> omega
    · omega
    · right
      show 512 ≤ b + (t + 1) * 8
      omega
    · show (b + (t + 1) * 8) / 512 % 8 + (b + (t + 1) * 8) / 64 % 8 * 7 + (b + (t + 1) * 8) / 8 % 8 * 49 + (b + (t + 1) * 8) % 8 * 343 = b / 512 % 8 + b / 64 % 8 * 7 + b / 8 % 8 * 49 + b % 8 * 343 + (t + 1) * 49
      omega
    · omega
    · omega
  · have hf : b / 8 * 8 = b := hf
    show (_ ∧ _ ∧ b + (t + 1) * 1 = b + (t + 1) * 1 ∧ _) ∧ _ ∧ 8 * (b / 8) = b ∧ (t + 1) * 1 < 8
    refine ⟨⟨?_, by decide, ?_, ?_⟩, ?_, ?_, ?_⟩
    · show (b + (t + 1) * 1) < 4096 ∧ (b + (t + 1) * 1) / 512 % 8 < 7 ∧ (b + (t + 1) * 1) / 64 % 8 < 7 ∧ (b + (t + 1) * 1) / 8 % 8 < 7 ∧ (b + (t + 1) * 1) % 8 < 7
      refine ⟨?_, ?_, ?_, ?_, ?_⟩ <;> omega
    · omega
    · right
      show 512 ≤ b + (t + 1) * 1
      omega
    · show (b + (t + 1) * 1) / 512 % 8 + (b + (t + 1) * 1) / 64 % 8 * 7 + (b + (t + 1) * 1) / 8 % 8 * 49 + (b + (t + 1) * 1) % 8 * 343 = b / 512 % 8 + b / 64 % 8 * 7 + b / 8 % 8 * 49 + b % 8 * 343 + (t + 1) * 343
      omega
    · omega
    · omega
/-- a key cut off behind its place i, where the folder's letter stands -/
theorem bq_cut {p i : Nat} (hp : bq_V p) (hi : i < 4) : bq_V (bq_f p (i + 1)) ∧ bq_c (bq_f p (i + 1)) = bq_c p % 7 ^ (i + 1) ∧ (bq_d p i = 6 → bq_f p (i + 1) ≠ 0) := by
  obtain ⟨hb, d0, d1, d2, d3⟩ := hp
  obtain rfl | rfl | rfl | rfl : i = 0 ∨ i = 1 ∨ i = 2 ∨ i = 3 := by omega
  · refine ⟨?_, ?_, ?_⟩
    · show (p / 512 * 512) < 4096 ∧ (p / 512 * 512) / 512 % 8 < 7 ∧ (p / 512 * 512) / 64 % 8 < 7 ∧ (p / 512 * 512) / 8 % 8 < 7 ∧ (p / 512 * 512) % 8 < 7
      refine ⟨?_, ?_, ?_, ?_, ?_⟩ <;> omega
    · show (p / 512 * 512) / 512 % 8 + (p / 512 * 512) / 64 % 8 * 7 + (p / 512 * 512) / 8 % 8 * 49 + (p / 512 * 512) % 8 * 343 = (p / 512 % 8 + p / 64 % 8 * 7 + p / 8 % 8 * 49 + p % 8 * 343) % 7
      have e0 : (p / 512 * 512) / 512 % 8 = p / 512 % 8 := by omega
      have e1 : (p / 512 * 512) / 64 % 8 = 0 := by omega
      have e2 : (p / 512 * 512) / 8 % 8 = 0 := by omega
      have e3 : (p / 512 * 512) % 8 = 0 := by omega
      rw [e0, e1, e2, e3]
      clear e0 e1 e2 e3
      generalize p / 512 % 8 = x at *
      generalize p / 64 % 8 = y at *
      generalize p / 8 % 8 = z at *
      generalize p % 8 = t at *
      omega
    · show p / 512 % 8 = 6 → p / 512 * 512 ≠ 0
      omega
  · refine ⟨?_, ?_, ?_⟩
    · show (p / 64 * 64) < 4096 ∧ (p / 64 * 64) / 512 % 8 < 7 ∧ (p / 64 * 64) / 64 % 8 < 7 ∧ (p / 64 * 64) / 8 % 8 < 7 ∧ (p / 64 * 64) % 8 < 7
      refine ⟨?_, ?_, ?_, ?_, ?_⟩ <;> omega
    · show (p / 64 * 64) / 512 % 8 + (p / 64 * 64) / 64 % 8 * 7 + (p / 64 * 64) / 8 % 8 * 49 + (p / 64 * 64) % 8 * 343 = (p / 512 % 8 + p / 64 % 8 * 7 + p / 8 % 8 * 49 + p % 8 * 343) % 49
      have e0 : (p / 64 * 64) / 512 % 8 = p / 512 % 8 := by omega
      have e1 : (p / 64 * 64) / 64 % 8 = p / 64 % 8 := by omega
      have e2 : (p / 64 * 64) / 8 % 8 = 0 := by omega
      have e3 : (p / 64 * 64) % 8 = 0 := by omega
      rw [e0, e1, e2, e3]
      clear e0 e1 e2 e3
      generalize p / 512 % 8 = x at *
      generalize p / 64 % 8 = y at *
      generalize p / 8 % 8 = z at *
      generalize p % 8 = t at *
      omega
    · show p / 64 % 8 = 6 → p / 64 * 64 ≠ 0
      omega
  · refine ⟨?_, ?_, ?_⟩
    · show (p / 8 * 8) < 4096 ∧ (p / 8 * 8) / 512 % 8 < 7 ∧ (p / 8 * 8) / 64 % 8 < 7 ∧ (p / 8 * 8) / 8 % 8 < 7 ∧ (p / 8 * 8) % 8 < 7
      refine ⟨?_, ?_, ?_, ?_, ?_⟩ <;> omega
    · show (p / 8 * 8) / 512 % 8 + (p / 8 * 8) / 64 % 8 * 7 + (p / 8 * 8) / 8 % 8 * 49 + (p / 8 * 8) % 8 * 343 = (p / 512 % 8 + p / 64 % 8 * 7 + p / 8 % 8 * 49 + p % 8 * 343) % 343
      have e0 : (p / 8 * 8) / 512 % 8 = p / 512 % 8 := by omega
      have e1 : (p / 8 * 8) / 64 % 8 = p / 64 % 8 := by omega
      have e2 : (p / 8 * 8) / 8 % 8 = p / 8 % 8 := by omega
      have e3 : (p / 8 * 8) % 8 = 0 := by omega
      rw [e0, e1, e2, e3]
      clear e0 e1 e2 e3
      generalize p / 512 % 8 = x at *
      generalize p / 64 % 8 = y at *
      generalize p / 8 % 8 = z at *
      generalize p % 8 = t at *
      omega
    · show p / 8 % 8 = 6 → p / 8 * 8 ≠ 0
      omega
  · refine ⟨⟨hb, d0, d1, d2, d3⟩, ?_, ?_⟩
    · show bq_c p = bq_c p % 2401
      exact (Nat.mod_eq_of_lt (bq_lt ⟨hb, d0, d1, d2, d3⟩)).symm
    · show p % 8 = 6 → p ≠ 0
      omega
