/-! how many of the slots s .. c-1 have the key q -/
def bq_n (K : Nat → Nat) (q : Nat) (s : Nat) : Nat → Nat
  | 0 => 0
  | d + 1 => (if K s = q then 1 else 0) + bq_n K q (s + 1) d
def bq_N (K : Nat → Nat) (q c s : Nat) : Nat := bq_n K q s (c - s)
theorem bq_Nge {K : Nat → Nat} {q c s : Nat} (h : c ≤ s) : bq_N K q c s = 0 := by
  unfold bq_N
  rw [Nat.sub_eq_zero_of_le h]
  rfl
theorem bq_Nlt {K : Nat → Nat} {q c s : Nat} (h : s < c) : bq_N K q c s = (if K s = q then 1 else 0) + bq_N K q c (s + 1) := by
  unfold bq_N
  obtain ⟨d, hd⟩ : ∃ d, c - s = d + 1 := ⟨c - s - 1, by omega⟩
  rw [hd, show c - (s + 1) = d from by omega]
  rfl
theorem bq_Nt {K : Nat → Nat} {q c s : Nat} (h : s < c) (e : K s = q) : bq_N K q c s = bq_N K q c (s + 1) + 1 := by
  rw [bq_Nlt h, if_pos e, Nat.add_comm]
theorem bq_Nf {K : Nat → Nat} {q c s : Nat} (h : s < c) (e : K s ≠ q) : bq_N K q c s = bq_N K q c (s + 1) := by
  rw [bq_Nlt h, if_neg e, Nat.zero_add]
theorem bq_Nle {K : Nat → Nat} {q c : Nat} : ∀ d s, s + d = c → bq_N K q c s ≤ d := by
  intro d
  induction d with
  | zero => intro s h; rw [bq_Nge (by omega)]; exact Nat.le_refl _
  | succ d ih =>
    intro s h
    have := ih (s + 1) (by omega)
    by_cases e : K s = q
    · rw [bq_Nt (by omega) e]; omega
    · rw [bq_Nf (by omega) e]; omega
theorem bq_Nc {K : Nat → Nat} {q c s : Nat} : bq_N K q c s ≤ c := by
  rcases Nat.lt_or_ge s c with h | h
  · have := bq_Nle (K := K) (q := q) (c := c) (c - s) s (by omega)
    omega
  · rw [bq_Nge h]; omega
theorem bq_Nmono {K : Nat → Nat} {q c : Nat} : ∀ d s, bq_N K q c (s + d) ≤ bq_N K q c s := by
  intro d
  induction d with
  | zero => intro s; exact Nat.le_refl _
  | succ d ih =>
    intro s
    have h := ih (s + 1)
    rw [show s + 1 + d = s + (d + 1) from by omega] at h
    rcases Nat.lt_or_ge s c with hs | hs
    · rw [bq_Nlt hs]; omega
    · rw [bq_Nge (show c ≤ s + (d + 1) by omega)]; omega
theorem bq_Nm {K : Nat → Nat} {q c s t : Nat} (h : s ≤ t) : bq_N K q c t ≤ bq_N K q c s := by
  obtain ⟨d, rfl⟩ : ∃ d, t = s + d := ⟨t - s, by omega⟩
  exact bq_Nmono d s
theorem bq_Nlt2 {K : Nat → Nat} {q c s t : Nat} (h : s < t) (ht : t < c) (e : K t = q) : bq_N K q c (t + 1) < bq_N K q c (s + 1) := by
  have h1 := bq_Nm (K := K) (q := q) (c := c) (s := s + 1) (t := t) (by omega)
  rw [bq_Nt ht e] at h1
  omega
theorem bq_N0 {K : Nat → Nat} {q c s t : Nat} (h : bq_N K q c s = 0) (hs : s ≤ t) (ht : t < c) : K t ≠ q := by
  intro e
  have h1 := bq_Nm (K := K) (q := q) (c := c) hs
  rw [bq_Nt ht e] at h1
  omega
theorem bq_N0' {K : Nat → Nat} {q c s : Nat} (h : ∀ t, s ≤ t → t < c → K t ≠ q) : bq_N K q c s = 0 := by
  obtain ⟨d, hd⟩ : ∃ d, d = c - s := ⟨_, rfl⟩
  induction d generalizing s with
  | zero => exact bq_Nge (by omega)
  | succ d ih =>
    rw [bq_Nf (by omega) (h s (Nat.le_refl _) (by omega))]
    exact ih (fun t h1 h2 => h t (by omega) h2) (by omega)
/-- the slot with i newer ones of its key is the only one -/
theorem bq_un {K : Nat → Nat} {q c s t : Nat} (hs : s < c) (es : K s = q) (ht : t < c) (et : K t = q) (h : bq_N K q c (s + 1) = bq_N K q c (t + 1)) : s = t := by
  rcases Nat.lt_trichotomy s t with h1 | h1 | h1
  · have := bq_Nlt2 (K := K) (q := q) (c := c) h1 ht et; omega
  · exact h1
  · have := bq_Nlt2 (K := K) (q := q) (c := c) h1 hs es; omega
/-- among the slots of a key each number up to the last is met -/
theorem bq_hit {K : Nat → Nat} {q c : Nat} : ∀ d s m, s + d = c → m < bq_N K q c s → ∃ t, s ≤ t ∧ t < c ∧ K t = q ∧ bq_N K q c (t + 1) = m := by
  intro d
  induction d with
  | zero => intro s m h hm; rw [bq_Nge (by omega)] at hm; omega
  | succ d ih =>
    intro s m h hm
    by_cases e : K s = q
    · by_cases h2 : m = bq_N K q c (s + 1)
      · exact ⟨s, Nat.le_refl _, by omega, e, h2.symm⟩
      · rw [bq_Nt (by omega) e] at hm
        obtain ⟨t, a, b⟩ := ih (s + 1) m (by omega) (by omega)
        exact ⟨t, by omega, b⟩
    · rw [bq_Nf (by omega) e] at hm
      obtain ⟨t, a, b⟩ := ih (s + 1) m (by omega) hm
      exact ⟨t, by omega, b⟩
theorem bq_newest {K : Nat → Nat} {q c s : Nat} (hs : s < c) (e : K s = q) : ∃ t, t < c ∧ K t = q ∧ bq_N K q c (t + 1) = 0 := by
  have h : 0 < bq_N K q c s := by rw [bq_Nt hs e]; omega
  obtain ⟨t, _, a⟩ := bq_hit (K := K) (q := q) (c := c) (c - s) s 0 (by omega) h
  exact ⟨t, a⟩
/-! the least element above e of a set, 0 if there is none -/
def bq_M (C : Nat → Prop) (e r : Nat) : Prop := (r = 0 ∧ ∀ x, C x → x ≤ e) ∨ (C r ∧ e < r ∧ ∀ x, C x → e < x → r ≤ x)
theorem bq_Mu {C : Nat → Prop} {e r t : Nat} (h : bq_M C e r) (h' : bq_M C e t) : r = t := by
  rcases h with ⟨rfl, h⟩ | ⟨a, b, h⟩
  · rcases h' with ⟨rfl, _⟩ | ⟨a', b', _⟩
    · rfl
    · have := h t a'; omega
  · rcases h' with ⟨rfl, h'⟩ | ⟨a', b', h'⟩
    · have := h' r a; omega
    · have := h t a' b'
      have := h' r a b
      omega
theorem bq_Mc {C D : Nat → Prop} {e r : Nat} (hD : ∀ x, D x ↔ C x) (h : bq_M C e r) : bq_M D e r := by
  rcases h with ⟨rfl, h⟩ | ⟨a, b, h⟩
  · exact Or.inl ⟨rfl, fun x hx => h x ((hD x).mp hx)⟩
  · exact Or.inr ⟨(hD r).mpr a, b, fun x hx => h x ((hD x).mp hx)⟩
theorem bq_Mlow {C D : Nat → Prop} {e r z : Nat} (hD : ∀ x, D x ↔ C x ∨ x = z) (hz : z ≤ e) (h : bq_M C e r) : bq_M D e r := by
  rcases h with ⟨rfl, h⟩ | ⟨a, b, h⟩
  · refine Or.inl ⟨rfl, fun x hx => ?_⟩
    rcases (hD x).mp hx with h1 | h1
    · exact h x h1
    · omega
  · refine Or.inr ⟨(hD r).mpr (Or.inl a), b, fun x hx h2 => ?_⟩
    rcases (hD x).mp hx with h1 | h1
    · exact h x h1 h2
    · omega
theorem bq_Mnew {C D : Nat → Prop} {e r z : Nat} (hD : ∀ x, D x ↔ C x ∨ x = z) (hz : e < z) (hr : r = 0 ∨ z < r) (h : bq_M C e r) : bq_M D e z := by
  refine Or.inr ⟨(hD z).mpr (Or.inr rfl), hz, fun x hx h2 => ?_⟩
  rcases (hD x).mp hx with h1 | h1
  · rcases h with ⟨e0, h⟩ | ⟨a, b, h⟩
    · have := h x h1; omega
    · have := h x h1 h2; omega
  · omega
theorem bq_Mold {C D : Nat → Prop} {e r z : Nat} (hD : ∀ x, D x ↔ C x ∨ x = z) (hr : r ≠ 0) (hz : r ≤ z) (h : bq_M C e r) : bq_M D e r := by
  rcases h with ⟨e0, h⟩ | ⟨a, b, h⟩
  · exact absurd e0 hr
  · refine Or.inr ⟨(hD r).mpr (Or.inl a), b, fun x hx h2 => ?_⟩
    rcases (hD x).mp hx with h1 | h1
    · exact h x h1 h2
    · omega
/-! numbers -/
theorem bq_z1 : nI 0 + (-1) < 0 := by decide +kernel
theorem bq_s1 (n : Nat) : nI n - 1 = nI n + (-1) := Int32.sub_eq_add_neg ..
theorem bq_cnt {n : Nat} (h : n ≤ 4) (k : Nat) (hk : k = 12 - 3 * n) : ((4 : Int32) - nI n) * 3 = nI k := by
  show (nI 4 - nI n) * nI 3 = nI k
  rw [pk_sub h, pk_mul]
  exact congrArg nI (by omega)
theorem bq_cnt3 {n : Nat} (h : n ≤ 3) (k : Nat) (hk : k = 9 - 3 * n) : ((3 : Int32) - nI n) * 3 = nI k := by
  show (nI 3 - nI n) * nI 3 = nI k
  rw [pk_sub h, pk_mul]
  exact congrArg nI (by omega)
theorem bq_mask (x : Int32) (k : Nat) (hk : k < 32) : x &&& ((-1 : Int32) <<< (nI k &&& 31)) = (x >>> (nI k &&& 31)) <<< (nI k &&& 31) := by
  apply b_ext
  intro i hi
  rw [b_and, b_shl k hk _ hi, b_shl k hk _ hi]
  by_cases h : k ≤ i
  · rw [b_m1 _ (by omega), b_sshr k hk _ (by omega), if_pos (by omega), show k + (i - k) = i from by omega, decide_eq_true h]
    simp
  · rw [decide_eq_false h]
    simp
theorem bq_maskN {p k : Nat} (hp : p < 4096) (hk : k < 32) : nI p &&& ((-1 : Int32) <<< (nI k &&& 31)) = nI (p / 2 ^ k * 2 ^ k) := by
  rw [bq_mask _ k hk, pk_shrN (by omega) _ k (s_l k hk), pk_shlN _ k (s_l k hk)]
  have := Nat.div_mul_le_self p (2 ^ k)
  omega
theorem bq_first {p n : Nat} (hp : p < 4096) (hn : n ≤ 4) : nI p &&& ((-1 : Int32) <<< ((((4 : Int32) - nI n) * 3) &&& 31)) = nI (bq_f p n) := by
  rw [bq_cnt hn _ rfl, bq_maskN hp (by omega)]
  obtain rfl | rfl | rfl | rfl | rfl : n = 0 ∨ n = 1 ∨ n = 2 ∨ n = 3 ∨ n = 4 := by omega
  · rfl
  · rfl
  · rfl
  · rfl
  · show nI (p / 1 * 1) = nI p
    rw [Nat.div_one, Nat.mul_one]
theorem bq_flt {p : Nat} (hp : p < 4096) (n : Nat) : bq_f p n < 4096 := by
  unfold bq_f
  split
  · omega
  · split
    · omega
    · split
      · omega
      · split <;> omega
theorem bq_digX {p i : Nat} (hp : p < 4096) (hi : i < 4) : (nI p >>> ((((3 : Int32) - nI i) * 3) &&& 31)) &&& 7 = nI (bq_d p i) := by
  rw [bq_cnt3 (by omega) _ rfl, pk_shrN (by omega) _ _ (s_l (9 - 3 * i) (by omega)), pk_andN (Nat.lt_of_le_of_lt (Nat.div_le_self _ _) (by omega)) 3 (by decide +kernel)]
  obtain rfl | rfl | rfl | rfl : i = 0 ∨ i = 1 ∨ i = 2 ∨ i = 3 := by omega
  · rfl
  · rfl
  · rfl
  · show nI (p / 1 % 8) = nI (p % 8)
    rw [Nat.div_one]
theorem bq_or (a b : Nat) : nI a ||| nI b = nI (a ||| b) := by
  apply Int32.toBitVec_inj.1
  show BitVec.ofNat 32 a ||| BitVec.ofNat 32 b = BitVec.ofNat 32 (a ||| b)
  apply BitVec.eq_of_getLsbD_eq
  intro i hi
  simp [hi]
theorem bq_typX {b l t : Nat} (hB : bq_B b l) (hl : l < 4) (ht : t < 6) : nI b ||| ((nI t + 1) <<< ((((3 : Int32) - nI l) * 3) &&& 31)) = nI (b + (t + 1) * 2 ^ (9 - 3 * l)) := by
  obtain ⟨_, _, h3, h4⟩ := bq_typ hB hl ht
  have h5 : 2 ^ (12 - 3 * l) ≤ 2 ^ 12 := Nat.pow_le_pow_right (by decide) (by omega)
  rw [bq_cnt3 (by omega) _ rfl, nI_1, pk_shlN _ _ (s_l (9 - 3 * l) (by omega)) (by omega), bq_or]
  have h6 := Nat.two_pow_add_eq_or_of_lt h4 (b / 2 ^ (12 - 3 * l))
  rw [h3] at h6
  rw [h6]
/-- one bit of an int -/
theorem bq_bit (x : Int32) {i : Nat} (hi : i < 32) : (x >>> (nI i &&& 31)) &&& 1 = if bt x i then 1 else 0 := by
  apply b_ext
  intro j hj
  have h1 : bt 1 j = decide (j = 0) := (by decide +kernel : ∀ j, j < 32 → bt 1 j = decide (j = 0)) j hj
  rw [b_and, b_sshr i hi _ hj, h1]
  by_cases e : j = 0
  · subst e
    rw [if_pos (show i + 0 < 32 by omega), Nat.add_zero]
    cases bt x i
    · decide +kernel
    · decide +kernel
  · rw [decide_eq_false e, Bool.and_false]
    cases bt x i
    · exact (b_0 j).symm
    · exact (h1.trans (decide_eq_false e)).symm
theorem bq_set (x : Int32) {n i : Nat} (hn : n < 8) (hi : i < 8) : bt (x ||| ((1 : Int32) <<< (nI n &&& 31))) i = (bt x i || decide (i = n)) := by
  rw [b_or, b_shl n (by omega) _ (by omega)]
  have h1 : ∀ j, j < 32 → bt 1 j = decide (j = 0) := by decide +kernel
  rw [h1 _ (by omega)]
  congr 1
  by_cases e : i = n
  · subst e
    simp
  · rw [decide_eq_false e]
    by_cases h : n ≤ i
    · rw [decide_eq_false (show ¬ i - n = 0 by omega), Bool.and_false]
    · rw [decide_eq_false h, Bool.false_and]
theorem bq_miss (x y : Int32) : (x &&& 255) &&& (y ^^^ (-1)) = 0 ↔ ∀ i, i < 8 → bt x i = true → bt y i = true := by
  constructor
  · intro h i hi hx
    have h2 : bt ((x &&& 255) &&& (y ^^^ (-1))) i = false := by rw [h]; exact b_0 i
    rw [b_and, b_and, b_xor, b_255, b_m1 i (by omega), hx, decide_eq_true hi] at h2
    simpa using h2
  · intro h
    apply b_ext
    intro i hi
    rw [b_and, b_and, b_xor, b_255, b_m1 i hi, b_0]
    by_cases h8 : i < 8
    · cases e : bt x i
      · simp
      · rw [h i h8 e]
        simp
    · rw [decide_eq_false h8]
      simp
theorem bq_255 (x : Int32) {i : Nat} (hi : i < 8) : bt (x &&& 255) i = bt x i := by
  rw [b_and, b_255, decide_eq_true hi, Bool.and_true]
/-- a slot taken away: what stands behind it moves down -/
def bq_sh {α : Type} (s c : Nat) (f : Nat → α) : Nat → α := fun i => if s ≤ i ∧ i + 1 < c then f (i + 1) else f i
theorem bq_sh0 {α : Type} {s c : Nat} {f : Nat → α} (h : c ≤ s + 1) : bq_sh s c f = f := by
  funext i
  unfold bq_sh
  rw [if_neg (by omega)]
def bq_up {α : Type} (f : Nat → α) (k : Nat) (x : α) : Nat → α := fun j => if j = k then x else f j
theorem bq_upd (f : Nat → Int32) (k : Nat) (x : Int32) : upd f k x = bq_up f k x := rfl
theorem bq_updN (g : Nat → Int32) (f : Nat → Nat) (k v : Nat) (h : Nat → Nat) (hg : g = fun i => nI (h (f i))) : upd g k (nI (h v)) = fun i => nI (h (bq_up f k v i)) := by
  subst hg
  funext j
  unfold upd bq_up
  by_cases e : j = k
  · rw [if_pos e, if_pos e]
  · rw [if_neg e, if_neg e]
theorem bq_shs {α : Type} {s c : Nat} {f : Nat → α} (h : s + 1 < c) : bq_sh (s + 1) c (bq_up f s (f (s + 1))) = bq_sh s c f := by
  funext i
  unfold bq_sh bq_up
  by_cases e : i = s
  · subst e
    rw [if_neg (by omega), if_pos rfl, if_pos ⟨Nat.le_refl _, h⟩]
  · by_cases h1 : s + 1 ≤ i ∧ i + 1 < c
    · rw [if_pos h1, if_neg (by omega), if_pos ⟨by omega, h1.2⟩]
    · rw [if_neg h1, if_neg e, if_neg (by omega)]
/-! the relation -/
def bq_h (S : Nat → Int32) : Nat → Int32 := fun j => if bt (S (j / 8)) (j % 8) then 1 else 0
abbrev bq_x (b l c nx : Nat) (K : Nat → Nat) (nu co mk : Nat → Int32) (U : Nat → Nat) (S w : Nat → Int32) : SX := (nI b, nI l, nI c, nI nx, (fun i => nI (K i)), nu, co, mk, (fun i => nI (U i)), S, w)
abbrev bq_y (b l c nx : Nat) (K : Nat → Nat) (nu co ob : Nat → Int32) (U : Nat → Nat) (S w : Nat → Int32) : SY := (nI (bq_c b), nI l, nI nx, nI c, nu, (fun i => nI (bq_c (K i))), ob, co, (fun i => nI (bq_c (U i))), bq_h S, w)
/-- the versions: keys, and marker against object -/
def bq_C (c : Nat) (K : Nat → Nat) (mk ob : Nat → Int32) : Prop := c ≤ 24 ∧ (∀ i, bq_V (K i)) ∧ (∀ i, i < c → K i ≠ 0) ∧ (∀ i, i < c → (mk i = 0 ∧ ob i = 1) ∨ (mk i = 1 ∧ ob i = 0))
def i_Rel (k : Nat) (u : SX) (v : SY) : Prop := ∃ (b l c nx : Nat) (K : Nat → Nat) (nu co mk ob : Nat → Int32) (U : Nat → Nat) (S w : Nat → Int32), u = bq_x b l c nx K nu co mk U S w ∧ v = bq_y b l c nx K nu co ob U S w ∧ bq_B b l ∧ bq_C c K mk ob ∧ (∀ i, bq_V (U i)) ∧ nx ≤ k
theorem i_up {k : Nat} {u : SX} {v : SY} (h : i_Rel k u v) : i_Rel (k + 4) u v := by
  obtain ⟨b, l, c, nx, K, nu, co, mk, ob, U, S, w, h1, h2, h3, h4, h5, h6⟩ := h
  exact ⟨b, l, c, nx, K, nu, co, mk, ob, U, S, w, h1, h2, h3, h4, h5, by omega⟩
theorem bq_hz : (fun _ => 0 : Nat → Int32) = bq_h (fun _ => 0) := by
  funext i
  unfold bq_h
  rw [b_0]
  rfl
theorem i_vc0 : wpX_init (fun u => wpY_init (fun v => i_Rel 0 u v)) := by
  refine ⟨0, 0, 0, 0, fun _ => 0, fun _ => 0, fun _ => 0, fun _ => 0, fun _ => 0, fun _ => 0, fun _ => 0, fun _ => 0, rfl, ?_, ⟨bq_V0, by decide, by decide, Or.inl rfl⟩, ⟨by decide, fun _ => bq_V0, fun i h => absurd h (by omega), fun i h => absurd h (by omega)⟩, fun _ => bq_V0, Nat.le_refl _⟩
  unfold bq_y
  rw [← bq_hz]
  dsimp only
  rw [bq_c0]
  rfl
