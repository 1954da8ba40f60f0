/-! list, entry -/
def bq_fo (q : Nat) : Nat → Nat → Nat
  | 0, _ => q
  | d + 1, p => if bq_d q p = 6 then bq_f q (p + 1) else bq_fo q d (p + 1)
theorem bq_foV {q : Nat} (hq : bq_V q) : ∀ d p, p + d = 4 → bq_V (bq_fo q d p) ∧ (q ≠ 0 → bq_fo q d p ≠ 0) := by
  intro d
  induction d with
  | zero => intro p _; exact ⟨hq, fun h => h⟩
  | succ d ih =>
    intro p hp
    obtain ⟨h1, _, h3⟩ := bq_cut (i := p) hq (by omega)
    unfold bq_fo
    by_cases e : bq_d q p = 6
    · rw [if_pos e]
      exact ⟨h1, fun _ => h3 e⟩
    · rw [if_neg e]
      exact ih _ (by omega)
/-- the entry of a key in a listing -/
def bq_E (f : Int32) (l q : Nat) : Nat := if f = 0 then q else bq_fo q (4 - l) l
theorem bq_EV {f : Int32} {l q : Nat} (hl : l ≤ 4) (hq : bq_V q) : bq_V (bq_E f l q) ∧ (q ≠ 0 → bq_E f l q ≠ 0) := by
  unfold bq_E
  by_cases e : f = 0
  · rw [if_pos e]
    exact ⟨hq, fun h => h⟩
  · rw [if_neg e]
    exact bq_foV hq _ _ (by omega)
def bq_S (Q : Nat → Prop) (g : Nat → Nat) (j x : Nat) : Prop := ∃ s, s < j ∧ Q s ∧ x = g s
theorem bq_St {Q : Nat → Prop} {g : Nat → Nat} {j : Nat} (h : Q j) (x : Nat) : bq_S Q g (j + 1) x ↔ bq_S Q g j x ∨ x = g j := by
  constructor
  · rintro ⟨s, hs, hQ, e⟩
    by_cases z : s = j
    · subst z
      exact Or.inr e
    · exact Or.inl ⟨s, by omega, hQ, e⟩
  · rintro (⟨s, hs, hQ, e⟩ | e)
    · exact ⟨s, by omega, hQ, e⟩
    · exact ⟨j, by omega, h, e⟩
theorem bq_Sf {Q : Nat → Prop} {g : Nat → Nat} {j : Nat} (h : ¬ Q j) (x : Nat) : bq_S Q g (j + 1) x ↔ bq_S Q g j x := by
  constructor
  · rintro ⟨s, hs, hQ, e⟩
    by_cases z : s = j
    · subst z
      exact absurd hQ h
    · exact ⟨s, by omega, hQ, e⟩
  · rintro ⟨s, hs, hQ, e⟩
    exact ⟨s, by omega, hQ, e⟩
theorem bq_S0 {Q : Nat → Prop} {g : Nat → Nat} (e : Nat) : bq_M (bq_S Q g 0) e 0 := Or.inl ⟨rfl, fun x hx => by
  obtain ⟨s, hs, _⟩ := hx
  omega⟩
theorem bq_Mex {Q : Nat → Prop} {g : Nat → Nat} (e : Nat) : ∀ j, ∃ r, bq_M (bq_S Q g j) e r := by
  intro j
  induction j with
  | zero => exact ⟨0, bq_S0 e⟩
  | succ j ih =>
    obtain ⟨r, hr⟩ := ih
    by_cases h : Q j
    · by_cases h1 : g j ≤ e
      · exact ⟨r, bq_Mlow (bq_St h) h1 hr⟩
      · by_cases h2 : r = 0 ∨ g j < r
        · exact ⟨_, bq_Mnew (bq_St h) (by omega) h2 hr⟩
        · exact ⟨r, bq_Mold (bq_St h) (by omega) (by omega) hr⟩
    · exact ⟨r, bq_Mc (bq_Sf h) hr⟩
theorem bq_MV {Q : Nat → Prop} {g : Nat → Nat} {e j r : Nat} (hg : ∀ s, bq_V (g s)) (h : bq_M (bq_S Q g j) e r) : bq_V r := by
  rcases h with ⟨rfl, _⟩ | ⟨⟨s, _, _, rfl⟩, _⟩
  · exact bq_V0
  · exact hg s
def bq_yv (m : Nat) : Int32 := if m = 0 then -1 else nI (bq_c m)
theorem bq_yv0 : bq_yv 0 = -1 := rfl
theorem bq_yvn {m : Nat} (h : m ≠ 0) : bq_yv m = nI (bq_c m) := if_neg h
theorem bx_dig {post : Int32 → Prop} {p i : Nat} (hp : p < 4096) (hi : i < 4) (h : post (nI (bq_d p i))) : wpX_digitAt post (nI p) (nI i) := by
  show post ((nI p >>> ((((3 : Int32) - nI i) * 3) &&& 31)) &&& 7)
  rw [bq_digX hp hi]
  exact h
theorem bx_fl {post : Int32 → Prop} {p n : Nat} (hp : p < 4096) (hn : n ≤ 4) (h : post (nI (bq_f p n))) : wpX_firstLetters post (nI p) (nI n) := by
  show post (nI p &&& ((-1 : Int32) <<< ((((4 : Int32) - nI n) * 3) &&& 31)))
  rw [bq_first hp hn]
  exact h
section
variable {b l c nx : Nat} {K U : Nat → Nat} {nu co mk ob S w : Nat → Int32}
theorem by_dig {post : Int32 → Prop} {q i : Nat} (hq : bq_V q) (hi : i < 4) (h : post (nI (bq_d q i))) : wpY_digit post (bq_y b l c nx K nu co ob U S w) (nI (bq_c q)) (nI i) := by
  obtain ⟨d0, d1, d2, d3, hlt⟩ := bq_dg hq
  have n7 : ¬ (7 : Int32) = 0 := by decide
  have n49 : ¬ (49 : Int32) = 0 := by decide
  have n343 : ¬ (343 : Int32) = 0 := by decide
  obtain rfl | rfl | rfl | rfl : i = 0 ∨ i = 1 ∨ i = 2 ∨ i = 3 := by omega
  · refine br_t rfl ⟨n7, ?_⟩
    have e : nI (bq_c q) - nI (bq_c q) / 7 * 7 = nI (bq_d q 0) := (pk_rem (d := 7) (by omega) (by decide) (by decide)).trans (congrArg nI d0)
    rw [e]
    exact h
  · refine br_f (by decide) (br_t rfl ⟨n7, nm_r (pk_div (d := 7) (by omega) (by decide) (by decide)) ⟨n7, ?_⟩⟩)
    have e : nI (bq_c q / 7) - nI (bq_c q / 7) / 7 * 7 = nI (bq_d q 1) := (pk_rem (d := 7) (by omega) (by decide) (by decide)).trans (congrArg nI d1)
    rw [e]
    exact h
  · refine br_f (by decide) (br_f (by decide) (br_t rfl ⟨n49, nm_r (pk_div (d := 49) (by omega) (by decide) (by decide)) ⟨n7, ?_⟩⟩))
    have e : nI (bq_c q / 49) - nI (bq_c q / 49) / 7 * 7 = nI (bq_d q 2) := (pk_rem (d := 7) (by omega) (by decide) (by decide)).trans (congrArg nI d2)
    rw [e]
    exact h
  · refine br_f (by decide) (br_f (by decide) (br_f (by decide) ⟨n343, nm_r (pk_div (d := 343) (by omega) (by decide) (by decide)) ⟨n7, ?_⟩⟩))
    have e : nI (bq_c q / 343) - nI (bq_c q / 343) / 7 * 7 = nI (bq_d q 3) := (pk_rem (d := 7) (by omega) (by decide) (by decide)).trans (congrArg nI d3)
    rw [e]
    exact h
theorem by_pow {post : Int32 → Prop} {i : Nat} (hi : i ≤ 4) (h : post (nI (7 ^ i))) : wpY_power post (bq_y b l c nx K nu co ob U S w) (nI i) := by
  obtain rfl | rfl | rfl | rfl | rfl : i = 0 ∨ i = 1 ∨ i = 2 ∨ i = 3 ∨ i = 4 := by omega
  · exact br_t rfl h
  · exact br_f (by decide) (br_t rfl h)
  · exact br_f (by decide) (br_f (by decide) (br_t rfl h))
  · exact br_f (by decide) (br_f (by decide) (br_f (by decide) (br_t rfl h)))
  · exact br_f (by decide) (br_f (by decide) (br_f (by decide) (br_f (by decide) h)))
theorem bx_fold_l {post : Int32 → Prop} {q : Nat} (hq : bq_V q) : ∀ d p, p + d = 4 → post (nI (bq_fo q d p)) → wX_folded_5 post (nI q) (nI b) (nI l) (nI c) (nI nx) (fun i => nI (K i)) nu co mk (fun i => nI (U i)) S w (d + 1) (nI p) := by
  intro d
  induction d with
  | zero =>
    intro p hp h
    exact br_t (nI_le (a := 4) (by omega) (by omega)) h
  | succ d ih =>
    intro p hp h
    unfold bq_fo at h
    have hd := bq_dlt hq p
    refine br_f (nI_ge (b := 4) (by omega) (by decide)) ?_
    refine bx_dig hq.1 (by omega) ?_
    refine pk_eq (bq_d q p) 6 (fun e => ?_) (fun e => ?_) rfl rfl (by omega) (by decide)
    · rw [if_pos e] at h
      rw [nI_1]
      exact bx_fl hq.1 (by omega) h
    · rw [if_neg e] at h
      exact nm_r (nI_1 p) (ih _ (by omega) h)
theorem bx_fold {post : Int32 → Prop} {q : Nat} (hq : bq_V q) (hl : l ≤ 4) (h : post (nI (bq_fo q (4 - l) l))) : wpX_folded post (bq_x b l c nx K nu co mk U S w) (nI q) :=
  ⟨4 - l + 1, bx_fold_l hq _ _ (by omega) h⟩
theorem by_fold0 {post : Int32 → Prop} {q : Nat} (h : post (nI (bq_c q))) : ∀ d p, p + d = 4 → wY_entryOf_51 post (nI (bq_c q)) 0 (nI (bq_c b)) (nI l) (nI nx) (nI c) nu (fun i => nI (bq_c (K i))) ob co (fun i => nI (bq_c (U i))) (bq_h S) w (d + 1) (nI p) := by
  intro d
  induction d with
  | zero =>
    intro p hp
    exact br_t (nI_le (a := 4) (by omega) (by omega)) h
  | succ d ih =>
    intro p hp
    exact br_f (nI_ge (b := 4) (by omega) (by decide)) (br_t rfl (nm_r (nI_1 p) (ih _ (by omega))))
theorem by_fold1 {post : Int32 → Prop} {q : Nat} {f : Int32} (hf : ¬ f = 0) (hq : bq_V q) : ∀ d p, p + d = 4 → post (nI (bq_c (bq_fo q d p))) → wY_entryOf_51 post (nI (bq_c q)) f (nI (bq_c b)) (nI l) (nI nx) (nI c) nu (fun i => nI (bq_c (K i))) ob co (fun i => nI (bq_c (U i))) (bq_h S) w (d + 1) (nI p) := by
  intro d
  induction d with
  | zero =>
    intro p hp h
    exact br_t (nI_le (a := 4) (by omega) (by omega)) h
  | succ d ih =>
    intro p hp h
    unfold bq_fo at h
    have hd := bq_dlt hq p
    have hlt := bq_lt hq
    refine br_f (nI_ge (b := 4) (by omega) (by decide)) (br_f hf ?_)
    refine by_dig hq (by omega) ?_
    refine pk_eq (bq_d q p) 6 (fun e => ?_) (fun e => ?_) rfl rfl (by omega) (by decide)
    · rw [if_pos e, (bq_cut hq (by omega)).2.1] at h
      rw [nI_1]
      have hp7 : 7 ^ (p + 1) ≤ 7 ^ 4 := Nat.pow_le_pow_right (by decide) (by omega)
      have hp0 : 0 < 7 ^ (p + 1) := Nat.pow_pos (by decide)
      refine by_pow (by omega) ?_
      refine br_f (nI_nle hp0 (by omega)) ⟨nI_ne0 hp0 (by omega), ?_⟩
      rw [pk_rem (by omega) hp0 (by omega)]
      exact h
    · rw [if_neg e] at h
      exact nm_r (nI_1 p) (ih _ (by omega) h)
theorem by_fold {post : Int32 → Prop} {q : Nat} {f : Int32} (hq : bq_V q) (hl : l ≤ 4) (h : post (nI (bq_c (bq_E f l q)))) : ∃ n, wY_entryOf_51 post (nI (bq_c q)) f (nI (bq_c b)) (nI l) (nI nx) (nI c) nu (fun i => nI (bq_c (K i))) ob co (fun i => nI (bq_c (U i))) (bq_h S) w n (nI l) := by
  unfold bq_E at h
  by_cases e : f = 0
  · rw [if_pos e] at h
    subst e
    exact ⟨_, by_fold0 h (4 - l) l (by omega)⟩
  · rw [if_neg e] at h
    exact ⟨_, by_fold1 e hq (4 - l) l (by omega) h⟩
theorem by_pre_l {post : Int32 → Prop} {q : Nat} {f : Int32} (hB : bq_B b l) (hq : bq_V q) (h1 : (∀ j, j < l → bq_d q j = bq_d b j) → post (nI (bq_c (bq_E f l q)))) (h2 : ¬ (∀ j, j < l → bq_d q j = bq_d b j) → post (-1)) : ∀ d p, p + d = l → (∀ j, j < p → bq_d q j = bq_d b j) → wY_entryOf_12 post (nI (bq_c q)) f (nI (bq_c b)) (nI l) (nI nx) (nI c) nu (fun i => nI (bq_c (K i))) ob co (fun i => nI (bq_c (U i))) (bq_h S) w (d + 1) (nI p) := by
  have hl := hB.2.1
  intro d
  induction d with
  | zero =>
    intro p hp he
    obtain rfl : p = l := by omega
    exact br_t (nI_le (by omega) (by omega)) (by_fold hq hl (h1 he))
  | succ d ih =>
    intro p hp he
    have hd := bq_dlt hq p
    have hd2 := bq_dlt hB.1 p
    refine br_f (nI_ge (by omega) (by omega)) ?_
    refine by_dig hq (by omega) ?_
    refine by_dig hB.1 (by omega) ?_
    refine pk_eq (bq_d q p) (bq_d b p) (fun e => ?_) (fun e => ?_) rfl rfl (by omega) (by omega)
    · refine nm_r (nI_1 p) (ih _ (by omega) (fun j hj => ?_))
      by_cases z : j = p
      · subst z
        exact e
      · exact he j (by omega)
    · exact h2 (fun z => e (z p (by omega)))
/-- a key that is present and begins with the buffer -/
def bq_Q (b l c : Nat) (K : Nat → Nat) (mk ob : Nat → Int32) (s : Nat) : Prop := bq_f (K s) l = b ∧ ∃ t, t < c ∧ K t = K s ∧ bq_N K (K s) c (t + 1) = 0 ∧ mk t = 0 ∧ ob t = 1
theorem by_ent {post : Int32 → Prop} {s : Nat} {f : Int32} (hB : bq_B b l) (hC : bq_C c K mk ob) (h1 : bq_Q b l c K mk ob s → post (nI (bq_c (bq_E f l (K s))))) (h2 : ¬ bq_Q b l c K mk ob s → post (-1)) : wpY_entryOf post (bq_y b l c nx K nu co ob U S w) (nI (bq_c (K s))) f := by
  have hc := hC.1
  have hV := hC.2.1
  unfold wpY_entryOf
  dsimp only
  have hp := bq_pre (p := K s) (hV s).1 hB
  rcases bz_pres (q := K s) hC with ⟨t, ht, e, hN, hm, ho⟩ | ⟨hm, ho⟩
  · refine by_pr1 hc hV (hV s) ht e hN ho ?_
    refine br_f (by decide) ⟨l + 1, by_pre_l hB (hV s) (fun h => h1 ⟨hp.mpr h, t, ht, e, hN, hm, ho⟩) (fun h => h2 (fun z => h (hp.mp z.1))) l 0 (by omega) (fun j hj => absurd hj (by omega))⟩
  · refine by_pr0 hc hV (hV s) ho ?_
    refine br_t rfl (h2 (fun z => ?_))
    obtain ⟨_, t, ht, e, hN, hm2, _⟩ := z
    exact hm t ht e hN hm2
theorem by_bef_l {post : Int32 → Prop} {a e : Nat} (ha : bq_V a) (he : bq_V e) (h : post (if a < e then 1 else 0)) : ∀ d p, p + d = 4 → (∀ j, j < p → bq_d a j = bq_d e j) → wY_before_2 post (nI (bq_c a)) (nI (bq_c e)) (nI (bq_c b)) (nI l) (nI nx) (nI c) nu (fun i => nI (bq_c (K i))) ob co (fun i => nI (bq_c (U i))) (bq_h S) w (d + 1) (nI p) := by
  intro d
  induction d with
  | zero =>
    intro p hp hj
    obtain rfl : p = 4 := by omega
    have z := bq_dall ha.1 he.1 hj
    rw [if_neg (by omega)] at h
    exact br_t (nI_le (a := 4) (b := 4) (by decide) (by decide)) h
  | succ d ih =>
    intro p hp hj
    have hd := bq_dlt ha p
    have hd2 := bq_dlt he p
    refine br_f (nI_ge (b := 4) (by omega) (by decide)) ?_
    refine by_dig ha (by omega) ?_
    refine by_dig he (by omega) ?_
    refine pk_eq (bq_d a p) (bq_d e p) (fun z => ?_) (fun z => ?_) rfl rfl (by omega) (by omega)
    · refine nm_r (nI_1 p) (ih _ (by omega) (fun j hj2 => ?_))
      by_cases y : j = p
      · subst y
        exact z
      · exact hj j (by omega)
    · have hx := bq_lex ha.1 he.1 (show p < 4 by omega) hj z
      refine by_dig ha (by omega) ?_
      refine by_dig he (by omega) ?_
      refine pk_le (bq_d e p) (bq_d a p) (fun y => ?_) (fun y => ?_) rfl rfl (by omega) (by omega)
      · rw [if_neg (fun q => absurd (hx.mpr q) (by omega))] at h
        exact h
      · rw [if_pos (hx.mp y)] at h
        exact h
theorem by_bef {post : Int32 → Prop} {a e : Nat} (ha : bq_V a) (he : bq_V e) (h : post (if a < e then 1 else 0)) : wpY_before post (bq_y b l c nx K nu co ob U S w) (nI (bq_c a)) (nI (bq_c e)) :=
  ⟨5, by_bef_l ha he h 4 0 (by omega) (fun j hj => absurd hj (by omega))⟩
theorem by_beh_l {post : Int32 → Prop} {e : Nat} {f : Int32} (hB : bq_B b l) (hC : bq_C c K mk ob) (he : bq_V e) (hp : ∀ r, bq_M (bq_S (bq_Q b l c K mk ob) (fun s => bq_E f l (K s)) c) e r → post (bq_yv r)) : ∀ d j r, j + d = c → bq_M (bq_S (bq_Q b l c K mk ob) (fun s => bq_E f l (K s)) j) e r → wY_behind_5 post (nI (bq_c e)) f (nI (bq_c b)) (nI l) (nI nx) (nI c) nu (fun i => nI (bq_c (K i))) ob co (fun i => nI (bq_c (U i))) (bq_h S) w (d + 1) (bq_yv r) (nI j) := by
  have hc := hC.1
  have hV := hC.2.1
  have hg : ∀ s, bq_V (bq_E f l (K s)) := fun s => (bq_EV hB.2.1 (hV s)).1
  intro d
  induction d with
  | zero =>
    intro j r hj hr
    obtain rfl : j = c := by omega
    exact br_t (nI_le (by omega) (by omega)) (hp r hr)
  | succ d ih =>
    intro j r hj hr
    have hcl : (nI j).toNatClampNeg = j := nI_clamp (by omega)
    have hky : (fun i => nI (bq_c (K i))) (nI j).toNatClampNeg = nI (bq_c (K j)) := congrArg (fun i => nI (bq_c (K i))) hcl
    have hrV := bq_MV hg hr
    refine br_f (nI_ge (by omega) (by omega)) ⟨vp_in_nI (by omega) (by decide), ?_⟩
    rw [hky]
    refine by_ent hB hC (fun hQ => ?_) (fun hQ => ?_)
    · have hzV := hg j
      have hz0 : bq_E f l (K j) ≠ 0 := (bq_EV hB.2.1 (hV j)).2 (hC.2.2.1 j (by omega))
      have hzp := bq_pos hzV hz0
      have hzl := bq_lt hzV
      refine br_f (nI_nle hzp (by omega)) ?_
      refine by_bef he hzV ?_
      by_cases h1 : e < bq_E f l (K j)
      · rw [if_pos h1]
        refine br_f (by decide) ?_
        by_cases h0 : r = 0
        · subst h0
          rw [bq_yv0]
          refine br_t (by decide) (nm_r (nI_1 j) ?_)
          have h3 := ih (j + 1) _ (by omega) (bq_Mnew (bq_St hQ) h1 (Or.inl rfl) hr)
          rw [bq_yvn hz0] at h3
          exact h3
        · have hrl := bq_lt hrV
          rw [bq_yvn h0]
          refine br_f (nI_pos (by omega)) ?_
          refine by_bef hzV hrV ?_
          by_cases h2 : bq_E f l (K j) < r
          · rw [if_pos h2]
            refine br_f (by decide) (nm_r (nI_1 j) ?_)
            have h3 := ih (j + 1) _ (by omega) (bq_Mnew (bq_St hQ) h1 (Or.inr h2) hr)
            rw [bq_yvn hz0] at h3
            exact h3
          · rw [if_neg h2]
            refine br_t rfl (nm_r (nI_1 j) ?_)
            have h3 := ih (j + 1) _ (by omega) (bq_Mold (bq_St hQ) h0 (Nat.le_of_not_lt h2) hr)
            rw [bq_yvn h0] at h3
            exact h3
      · rw [if_neg h1]
        exact br_t rfl (nm_r (nI_1 j) (ih (j + 1) _ (by omega) (bq_Mlow (bq_St hQ) (Nat.le_of_not_lt h1) hr)))
    · exact br_t (by decide) (nm_r (nI_1 j) (ih (j + 1) _ (by omega) (bq_Mc (bq_Sf hQ) hr)))
/-! X -/
def bq_L (b l c : Nat) (K : Nat → Nat) (mk : Nat → Int32) (s : Nat) : Prop := bq_f (K s) l = b ∧ bq_N K (K s) c (s + 1) = 0 ∧ mk s = 0
theorem bx_lst {post : Int32 → Prop} {s : Nat} (hB : bq_B b l) (hc : c ≤ 24) (hV : ∀ j, bq_V (K j)) (hs : s < c) (h1 : bq_L b l c K mk s → post 1) (h2 : ¬ bq_L b l c K mk s → post 0) : wpX_isListed post (bq_x b l c nx K nu co mk U S w) (nI s) := by
  have hcl : (nI s).toNatClampNeg = s := nI_clamp (by omega)
  have hfl := bq_flt (hV s).1 l
  have hbl := hB.1.1
  unfold wpX_isListed
  dsimp only
  refine ⟨vp_in_nI (by omega) (by decide), nm_r (congrArg (fun i => nI (K i)) hcl) ?_⟩
  refine bx_fl (hV s).1 hB.2.1 ?_
  refine pk_eq (bq_f (K s) l) b (fun e => ?_) (fun e => h2 (fun z => e z.1)) rfl rfl (by omega) (by omega)
  by_cases hx : ∃ t, t < c ∧ K t = K s ∧ bq_N K (K s) c (t + 1) = 0 ∧ mk t = 0
  · obtain ⟨t, ht, et, hN, hm⟩ := hx
    refine bx_cur1 hc hV (hV s) ht et hN hm ?_
    refine pk_eq t s (fun z => ?_) (fun z => h2 (fun y => ?_)) rfl rfl (by omega) (by omega)
    · subst z
      exact h1 ⟨e, hN, hm⟩
    · exact z (bq_un ht et hs rfl (hN.trans y.2.1.symm))
  · refine bx_cur0 hc hV (hV s) (fun t ht et hN hm => hx ⟨t, ht, et, hN, hm⟩) ?_
    exact br_f (fun z => bq_nm1 (n := s) (by omega) z.symm) (h2 (fun y => hx ⟨s, hs, rfl, y.2.1, y.2.2⟩))
theorem bx_beh_47 {post : Int32 → Prop} {J : Int32 → Int32 → Prop} {Q : Nat → Prop} {g : Nat → Nat} {e r j z : Nat} {f : Int32} (he : e < 4096) (hr : r < 4096) (hz : z < 4096) (hj : z = g j) (hQ : Q j) (hM : bq_M (bq_S Q g j) e r) (hJ : ∀ t, bq_M (bq_S Q g (j + 1)) e t → J (nI t) (nI (j + 1))) : wX_entryBehind_47 post J (nI e) f (nI r) (nI j) (nI z) (nI b) (nI l) (nI c) (nI nx) (fun i => nI (K i)) nu co mk (fun i => nI (U i)) S w := by
  subst hj
  refine pk_le (g j) e (fun h => nm_r (nI_1 j) (hJ r (bq_Mlow (bq_St hQ) h hM))) (fun h => ?_) rfl rfl (by omega) (by omega)
  refine pk_eq r 0 (fun h0 => nm_r (nI_1 j) (hJ _ (bq_Mnew (bq_St hQ) h (Or.inl h0) hM))) (fun h0 => ?_) rfl rfl (by omega) (by decide)
  exact pk_le r (g j) (fun h2 => nm_r (nI_1 j) (hJ _ (bq_Mold (bq_St hQ) h0 h2 hM))) (fun h2 => nm_r (nI_1 j) (hJ _ (bq_Mnew (bq_St hQ) h (Or.inr h2) hM))) rfl rfl (by omega) (by omega)
theorem bx_beh_l {post : Int32 → Prop} {e : Nat} {f : Int32} (hB : bq_B b l) (hc : c ≤ 24) (hV : ∀ j, bq_V (K j)) (he : bq_V e) (hp : ∀ r, bq_M (bq_S (bq_L b l c K mk) (fun s => bq_E f l (K s)) c) e r → post (nI r)) : ∀ d j r, j + d = c → bq_M (bq_S (bq_L b l c K mk) (fun s => bq_E f l (K s)) j) e r → wX_entryBehind_5 post (nI e) f (nI b) (nI l) (nI c) (nI nx) (fun i => nI (K i)) nu co mk (fun i => nI (U i)) S w (d + 1) (nI r) (nI j) := by
  have hg : ∀ s, bq_V (bq_E f l (K s)) := fun s => (bq_EV hB.2.1 (hV s)).1
  intro d
  induction d with
  | zero =>
    intro j r hj hr
    obtain rfl : j = c := by omega
    exact br_t (nI_le (by omega) (by omega)) (hp r hr)
  | succ d ih =>
    intro j r hj hr
    have hcl : (nI j).toNatClampNeg = j := nI_clamp (by omega)
    have hrV := bq_MV hg hr
    refine br_f (nI_ge (by omega) (by omega)) ?_
    refine bx_lst hB hc hV (by omega) (fun hQ => ?_) (fun hQ => ?_)
    · refine br_f (by decide) ⟨vp_in_nI (by omega) (by decide), nm_r (congrArg (fun i => nI (K i)) hcl) ?_⟩
      have hzV := hg j
      by_cases hf : f = 0
      · have ez : K j = bq_E f l (K j) := by
          unfold bq_E
          rw [if_pos hf]
        exact br_t hf (bx_beh_47 (Q := bq_L b l c K mk) (g := fun s => bq_E f l (K s)) he.1 hrV.1 (hV j).1 ez hQ hr (fun t ht => ih _ _ (by omega) ht))
      · have ez : bq_fo (K j) (4 - l) l = bq_E f l (K j) := by
          unfold bq_E
          rw [if_neg hf]
        refine br_f hf ?_
        refine bx_fold (hV j) hB.2.1 ?_
        exact bx_beh_47 (Q := bq_L b l c K mk) (g := fun s => bq_E f l (K s)) he.1 hrV.1 (by rw [ez]; exact hzV.1) ez hQ hr (fun t ht => ih _ _ (by omega) ht)
    · exact br_t rfl (nm_r (nI_1 j) (ih _ _ (by omega) (bq_Mc (bq_Sf hQ) hr)))
/-- the next entry behind e, on both sides -/
theorem bz_eb (nx : Nat) (U : Nat → Nat) (nu co S w : Nat → Int32) (hB : bq_B b l) (hC : bq_C c K mk ob) (f : Int32) {e : Nat} (he : bq_V e) : ∃ m, bq_V m ∧ (∀ post : Int32 → Prop, post (nI m) → wpX_entryBehind post (bq_x b l c nx K nu co mk U S w) (nI e) f) ∧ (∀ post : Int32 → Prop, post (bq_yv m) → wpY_behind post (bq_y b l c nx K nu co ob U S w) (nI (bq_c e)) f) := by
  have hV := hC.2.1
  have hg : ∀ s, bq_V (bq_E f l (K s)) := fun s => (bq_EV hB.2.1 (hV s)).1
  obtain ⟨m, hm⟩ := bq_Mex (Q := bq_L b l c K mk) (g := fun s => bq_E f l (K s)) e c
  have hm2 : bq_M (bq_S (bq_Q b l c K mk ob) (fun s => bq_E f l (K s)) c) e m := by
    refine bq_Mc (fun x => ?_) hm
    constructor
    · rintro ⟨s, hs, ⟨h1, t, ht, et, hN, hmk, _⟩, hx⟩
      refine ⟨t, ht, ⟨?_, ?_, hmk⟩, ?_⟩
      · rw [et]
        exact h1
      · rw [et]
        exact hN
      · show x = bq_E f l (K t)
        rw [et]
        exact hx
    · rintro ⟨s, hs, ⟨h1, h2, h3⟩, hx⟩
      refine ⟨s, hs, ⟨h1, s, hs, rfl, h2, h3, ?_⟩, hx⟩
      rcases hC.2.2.2 s hs with h | h
      · exact h.2
      · rw [h.1] at h3
        exact absurd h3 (by decide)
  refine ⟨m, bq_MV hg hm, fun post hp => ⟨c + 1, ?_⟩, fun post hp => ⟨c + 1, ?_⟩⟩
  · refine bx_beh_l hB hC.1 hV he (fun r hr => ?_) c 0 0 (by omega) (bq_S0 e)
    cases bq_Mu hm hr
    exact hp
  · refine by_beh_l hB hC he (fun r hr => ?_) c 0 0 (by omega) (bq_S0 e)
    cases bq_Mu hm2 hr
    exact hp
theorem bq_yvle {m : Nat} (hm : bq_V m) : bq_yv m ≤ 0 ↔ m = 0 := by
  constructor
  · intro h
    by_cases z : m = 0
    · exact z
    · rw [bq_yvn z] at h
      exact absurd h (nI_nle (bq_pos hm z) (by have := bq_lt hm; omega))
  · intro h
    subst h
    decide
theorem bz_list_l (hB : bq_B b l) (hC : bq_C c K mk ob) (f : Int32) : ∀ d n e m, n + d = 24 → bq_V m → (∀ post : Int32 → Prop, post (nI m) → wpX_entryBehind post (bq_x b l c nx K nu co mk U S w) (nI e) f) → ∃ r : Int32, (∀ post : Int32 → Prop, post r → wX_list_7 post f (nI b) (nI l) (nI c) (nI nx) (fun i => nI (K i)) nu co mk (fun i => nI (U i)) S w (d + 1) (nI n) (nI e) (nI n)) ∧ (∀ post : Int32 → Prop, post r → wY_list_12 post f (nI (bq_c b)) (nI l) (nI nx) (nI c) nu (fun i => nI (bq_c (K i))) ob co (fun i => nI (bq_c (U i))) (bq_h S) w (d + 1) (nI n) (bq_yv m) (nI n)) := by
  intro d
  induction d with
  | zero =>
    intro n e m hn _ _
    have h : (24 : Int32) ≤ nI n := nI_le (a := 24) (by omega) (by omega)
    exact ⟨nI n, fun _ hp => br_t h hp, fun _ hp => br_t h hp⟩
  | succ d ih =>
    intro n e m hn hm hX
    have h : ¬ (24 : Int32) ≤ nI n := nI_ge (b := 24) (by omega) (by decide)
    by_cases z : m = 0
    · refine ⟨nI n, fun post hp => br_f h (hX _ (br_t ((bq_pz hm).mpr z) hp)), fun post hp => br_f h (br_t ((bq_yvle hm).mpr z) hp)⟩
    · obtain ⟨m2, hm2, hX2, hY2⟩ := bz_eb nx U nu co S w hB hC f hm
      obtain ⟨r, rX, rY⟩ := ih (n + 1) m m2 (by omega) hm2 hX2
      refine ⟨r, fun post hp => br_f h (hX _ (br_f (fun y => z ((bq_pz hm).mp y)) (nm_r (nI_1 n) (nm_r (nI_1 n) (rX post hp))))), fun post hp => br_f h (br_f (fun y => z ((bq_yvle hm).mp y)) (nm_r (nI_1 n) ?_))⟩
      rw [bq_yvn z]
      exact hY2 _ (nm_r (nI_1 n) (rY post hp))
theorem bx_sum_s {post : Int32 → Prop} {q n a g p : Nat} (hq : q < 4096) (hp : p < 4) (h : wX_sumOfLetters_6 post (nI q) n (nI (a + bq_d q p * g)) (nI (g * 7)) (nI (p + 1))) : wX_sumOfLetters_6 post (nI q) (n + 1) (nI a) (nI g) (nI p) := by
  refine br_f (nI_ge (b := 4) hp (by decide)) ?_
  refine bx_dig hq hp ?_
  refine nm_r (?_ : _ = nI (a + bq_d q p * g)) (nm_r (pk_mul g 7) (nm_r (nI_1 p) h))
  rw [pk_mul, nI_add]
theorem bx_sum {post : Int32 → Prop} {q : Nat} (hq : q < 4096) (h : post (nI (bq_c q))) : wpX_sumOfLetters post (nI q) := by
  refine ⟨5, ?_⟩
  refine bx_sum_s (a := 0) (g := 1) (p := 0) hq (by decide) ?_
  refine bx_sum_s hq (by decide) ?_
  refine bx_sum_s hq (by decide) ?_
  refine bx_sum_s hq (by decide) ?_
  refine br_t (by decide) ?_
  have e : 0 + bq_d q 0 * 1 + bq_d q (0 + 1) * (1 * 7) + bq_d q (0 + 1 + 1) * (1 * 7 * 7) + bq_d q (0 + 1 + 1 + 1) * (1 * 7 * 7 * 7) = bq_c q := by
    show 0 + q / 512 % 8 * 1 + q / 64 % 8 * 7 + q / 8 % 8 * 49 + q % 8 * 343 = q / 512 % 8 + q / 64 % 8 * 7 + q / 8 % 8 * 49 + q % 8 * 343
    omega
  rw [e]
  exact h
theorem bz_ent_l {i : Nat} (hi : i < 24) (hB : bq_B b l) (hC : bq_C c K mk ob) (f : Int32) : ∀ d n e m, n + d = i → bq_V m → (∀ post : Int32 → Prop, post (nI m) → wpX_entryBehind post (bq_x b l c nx K nu co mk U S w) (nI e) f) → ∃ r : Int32, (∀ post : Int32 → Prop, post r → wX_entry_18 post (nI i) f (nI b) (nI l) (nI c) (nI nx) (fun i => nI (K i)) nu co mk (fun i => nI (U i)) S w (d + 1 + 1) (nI e) (nI n)) ∧ (∀ post : Int32 → Prop, post r → wY_entry_10 post (nI i) f (nI (bq_c b)) (nI l) (nI nx) (nI c) nu (fun i => nI (bq_c (K i))) ob co (fun i => nI (bq_c (U i))) (bq_h S) w (d + 1) (bq_yv m) (nI n)) := by
  intro d
  induction d with
  | zero =>
    intro n e m hn hm hX
    obtain rfl : n = i := by omega
    have h : ¬ (24 : Int32) ≤ nI n := nI_ge (b := 24) (by omega) (by decide)
    have hlt : ¬ nI n < nI n := nI_nlt (Nat.le_refl _) (by omega)
    by_cases z : m = 0
    · exact ⟨-7, fun post hp => br_f hlt (hX _ (br_t ((bq_pz hm).mpr z) hp)), fun post hp => br_f h (br_t ((bq_yvle hm).mpr z) hp)⟩
    · refine ⟨nI (bq_c m), fun post hp => br_f hlt (hX _ (br_f (fun y => z ((bq_pz hm).mp y)) (nm_r (nI_1 n) (br_t (nI_lt (by omega) (by omega)) ?_)))), fun post hp => br_f h (br_f (fun y => z ((bq_yvle hm).mp y)) (br_t rfl ?_))⟩
      · exact bx_sum hm.1 hp
      · rw [bq_yvn z]
        exact hp
  | succ d ih =>
    intro n e m hn hm hX
    have h : ¬ (24 : Int32) ≤ nI n := nI_ge (b := 24) (by omega) (by decide)
    have hlt : ¬ nI i < nI n := nI_nlt (by omega) (by omega)
    have hne : ¬ nI n = nI i := fun y => absurd (bq_ni (by omega) (by omega) y) (by omega)
    by_cases z : m = 0
    · exact ⟨-7, fun post hp => br_f hlt (hX _ (br_t ((bq_pz hm).mpr z) hp)), fun post hp => br_f h (br_t ((bq_yvle hm).mpr z) hp)⟩
    · obtain ⟨m2, hm2, hX2, hY2⟩ := bz_eb nx U nu co S w hB hC f hm
      obtain ⟨r, rX, rY⟩ := ih (n + 1) m m2 (by omega) hm2 hX2
      refine ⟨r, fun post hp => br_f hlt (hX _ (br_f (fun y => z ((bq_pz hm).mp y)) (nm_r (nI_1 n) (rX post hp)))), fun post hp => br_f h (br_f (fun y => z ((bq_yvle hm).mp y)) (br_f hne ?_))⟩
      rw [bq_yvn z]
      exact hY2 _ (nm_r (nI_1 n) (rY post hp))
theorem by_ent_n {post : Int32 → Prop} {i : Int32} (hi : ∀ n, n < 24 → ¬ nI n = i) (hB : bq_B b l) (hC : bq_C c K mk ob) (f : Int32) (hp : post (-7)) : ∀ d n m, n + d = 24 → bq_V m → wY_entry_10 post i f (nI (bq_c b)) (nI l) (nI nx) (nI c) nu (fun i => nI (bq_c (K i))) ob co (fun i => nI (bq_c (U i))) (bq_h S) w (d + 1) (bq_yv m) (nI n) := by
  intro d
  induction d with
  | zero =>
    intro n m hn _
    exact br_t (nI_le (a := 24) (by omega) (by omega)) hp
  | succ d ih =>
    intro n m hn hm
    have h : ¬ (24 : Int32) ≤ nI n := nI_ge (b := 24) (by omega) (by decide)
    by_cases z : m = 0
    · exact br_f h (br_t ((bq_yvle hm).mpr z) hp)
    · obtain ⟨m2, hm2, hX2, hY2⟩ := bz_eb nx U nu co S w hB hC f hm
      refine br_f h (br_f (fun y => z ((bq_yvle hm).mp y)) (br_f (hi n (by omega)) ?_))
      rw [bq_yvn z]
      exact hY2 _ (nm_r (nI_1 n) (ih _ _ (by omega) hm2))
end
