/-! type, erase, put, remove, destroy, get, present, content, versionAt -/
theorem i_vc_type {k : Nat} {u : SX} {v : SY} (I : i_Rel k u v) (hk : k + 4 ≤ 2048) (v1 : Int32) : wpX_type (fun r u' => wpY_type (fun r' v' => r' = r ∧ i_Rel (k + 4) u' v') v v1) u v1 := by
  have I0 := i_up I
  obtain ⟨b, l, c, nx, K, nu, co, mk, ob, U, S, w, rfl, rfl, hB, hC, hU, hx⟩ := I
  by_cases h0 : v1 < 0
  · exact br_t h0 (br_t h0 ⟨rfl, I0⟩)
  · by_cases h5 : v1 ≤ 5
    · obtain ⟨t, ht, rfl⟩ := nI_of2 (n := 5) (by decide) h0 h5
      have hl4 : l ≤ 4 := hB.2.1
      by_cases h4 : l < 4
      · refine br_f h0 (br_t h5 (br_t (nI_lt (b := 4) h4 (by decide)) ?_))
        obtain ⟨hB2, hc2, _, _⟩ := bq_typ (t := t) hB h4 (by omega)
        refine nm_r (bq_typX hB h4 (by omega)) (nm_r (nI_1 l) ?_)
        refine br_f h0 (br_t h5 (br_f (fun z => absurd (bq_ni (b := 4) (by omega) (by decide) z) (by omega)) ?_))
        have fin : ∀ p : Nat, p = 7 ^ l → (∀ x : Int32, x = nI (bq_c b) + (nI t + 1) * nI p → ∀ y : Int32, y = nI l + 1 → y = nI (l + 1) ∧ i_Rel (k + 4) (bq_x (b + (t + 1) * 2 ^ (9 - 3 * l)) (l + 1) c nx K nu co mk U S w) (x, y, nI nx, nI c, nu, (fun i => nI (bq_c (K i))), ob, co, (fun i => nI (bq_c (U i))), bq_h S, w)) := by
          intro p hp
          refine nm_r (?_ : _ = nI (bq_c (b + (t + 1) * 2 ^ (9 - 3 * l)))) (nm_r (nI_1 l) ⟨rfl, ?_⟩)
          · rw [nI_1, pk_mul, nI_add, hc2, hp]
          · exact ⟨_, _, c, nx, K, nu, co, mk, ob, U, S, w, rfl, rfl, hB2, hC, hU, by omega⟩
        obtain rfl | rfl | rfl | rfl : l = 0 ∨ l = 1 ∨ l = 2 ∨ l = 3 := by omega
        · exact br_t rfl (fin 1 rfl)
        · exact br_f (by decide +kernel) (br_t rfl (fin 7 rfl))
        · exact br_f (by decide +kernel) (br_f (by decide +kernel) (br_t rfl (fin 49 rfl)))
        · exact br_f (by decide +kernel) (br_f (by decide +kernel) (br_f (by decide +kernel) (br_t rfl (fin 343 rfl))))
      · obtain rfl : l = 4 := by omega
        exact br_f h0 (br_t h5 (br_f (by decide +kernel) (br_f h0 (br_t h5 (br_t rfl ⟨rfl, I0⟩)))))
    · exact br_f h0 (br_f h5 (br_f h0 (br_f h5 ⟨rfl, I0⟩)))
theorem i_vc_erase {k : Nat} {u : SX} {v : SY} (I : i_Rel k u v) (hk : k + 4 ≤ 2048) : wpX_erase (fun u' => wpY_erase (fun v' => i_Rel (k + 4) u' v') v) u := by
  obtain ⟨b, l, c, nx, K, nu, co, mk, ob, U, S, w, rfl, rfl, hB, hC, hU, hx⟩ := I
  refine ⟨0, 0, c, nx, K, nu, co, mk, ob, U, S, w, rfl, ?_, ⟨bq_V0, by decide, by decide, Or.inl rfl⟩, hC, hU, by omega⟩
  unfold bq_y
  rw [bq_c0]
  rfl
theorem bz_b0 {b l : Nat} (hB : bq_B b l) : b = 0 ↔ l = 0 := by
  obtain ⟨hV, hl, hf, hz⟩ := hB
  constructor
  · intro e
    omega
  · intro e
    subst e
    have hf : b / 4096 * 4096 = b := hf
    have := hV.1
    omega
theorem i_vc_put {k : Nat} {u : SX} {v : SY} (I : i_Rel k u v) (hk : k + 4 ≤ 2048) (v1 : Int32) : wpX_put (fun r u' => wpY_put (fun r' v' => r' = r ∧ i_Rel (k + 4) u' v') v v1) u v1 := by
  have I0 := i_up I
  obtain ⟨b, l, c, nx, K, nu, co, mk, ob, U, S, w, rfl, rfl, hB, hC, hU, hx⟩ := I
  have hl4 : l ≤ 4 := hB.2.1
  by_cases h0 : b = 0
  · have hl := (bz_b0 hB).mp h0
    exact br_t (congrArg nI h0) (br_t (congrArg nI hl) ⟨rfl, I0⟩)
  · have hl : l ≠ 0 := fun e => h0 ((bz_b0 hB).mpr e)
    refine br_f (nI_ne0 (by omega) (by have := hB.1.1; omega)) ?_
    have hlf : ¬ nI l = 0 := nI_ne0 (by omega) (by omega)
    by_cases h : c < 24
    · refine bx_add1 h (Or.inl rfl) ?_
      refine br_f hlf (by_add1 h (Or.inr rfl) ⟨rfl, ?_⟩)
      exact ⟨b, l, _, _, _, _, _, _, _, U, S, w, rfl, rfl, hB, bz_addC hC h hB.1 h0 (Or.inl ⟨rfl, rfl⟩), hU, by omega⟩
    · have hc := hC.1
      refine bx_add0 (by omega) ?_
      exact br_f hlf (by_add0 (by omega) ⟨rfl, I0⟩)
/-- whether a key is present, on both sides -/
theorem bz_pres {c q : Nat} {K : Nat → Nat} {mk ob : Nat → Int32} (hC : bq_C c K mk ob) : (∃ s, s < c ∧ K s = q ∧ bq_N K q c (s + 1) = 0 ∧ mk s = 0 ∧ ob s = 1) ∨ ((∀ s, s < c → K s = q → bq_N K q c (s + 1) = 0 → mk s ≠ 0) ∧ (∀ s, s < c → K s = q → bq_N K q c (s + 1) = 0 → ob s = 0)) := by
  by_cases h : ∃ s, s < c ∧ K s = q ∧ bq_N K q c (s + 1) = 0 ∧ mk s = 0 ∧ ob s = 1
  · exact Or.inl h
  · right
    constructor
    · intro s hs e hN hm
      rcases hC.2.2.2 s hs with h1 | h1
      · exact h ⟨s, hs, e, hN, h1⟩
      · rw [h1.1] at hm
        exact absurd hm (by decide)
    · intro s hs e hN
      rcases hC.2.2.2 s hs with h1 | h1
      · exact absurd ⟨s, hs, e, hN, h1⟩ h
      · exact h1.2
theorem i_vc_remove {k : Nat} {u : SX} {v : SY} (I : i_Rel k u v) (hk : k + 4 ≤ 2048) : wpX_remove (fun r u' => wpY_remove (fun r' v' => r' = r ∧ i_Rel (k + 4) u' v') v) u := by
  have I0 := i_up I
  obtain ⟨b, l, c, nx, K, nu, co, mk, ob, U, S, w, rfl, rfl, hB, hC, hU, hx⟩ := I
  have hl4 : l ≤ 4 := hB.2.1
  have hc := hC.1
  unfold wpX_remove
  dsimp only
  rcases bz_pres (q := b) hC with ⟨s, hs, e, hN, hm, ho⟩ | ⟨hm, ho⟩
  · have h0 : b ≠ 0 := by rw [← e]; exact hC.2.2.1 s hs
    have hl : l ≠ 0 := fun e => h0 ((bz_b0 hB).mpr e)
    have hlf : ¬ nI l = 0 := nI_ne0 (by omega) (by omega)
    refine bx_pr1 hc hC.2.1 hB.1 hs e hN hm ?_
    refine br_f (by decide) ?_
    by_cases h : c < 24
    · refine bx_add1 h (Or.inr rfl) ?_
      refine br_f hlf ?_
      refine by_pr1 hc hC.2.1 hB.1 hs e hN ho ?_
      refine br_f (by decide) (by_add1 h (Or.inl rfl) ⟨rfl, ?_⟩)
      exact ⟨b, l, _, _, _, _, _, _, _, U, S, w, rfl, rfl, hB, bz_addC hC h hB.1 h0 (Or.inr ⟨rfl, rfl⟩), hU, by omega⟩
    · refine bx_add0 (by omega) ?_
      refine br_f hlf ?_
      refine by_pr1 hc hC.2.1 hB.1 hs e hN ho ?_
      exact br_f (by decide) (by_add0 (by omega) ⟨rfl, I0⟩)
  · refine bx_pr0 hc hC.2.1 hB.1 hm ?_
    refine br_t rfl ?_
    by_cases hl : l = 0
    · exact br_t (congrArg nI hl) ⟨rfl, I0⟩
    · refine br_f (nI_ne0 (by omega) (by omega)) ?_
      refine by_pr0 hc hC.2.1 hB.1 ho ?_
      exact br_t rfl ⟨rfl, I0⟩
theorem i_vc_destroy {k : Nat} {u : SX} {v : SY} (I : i_Rel k u v) (hk : k + 4 ≤ 2048) (v1 : Int32) : wpX_destroy (fun r u' => wpY_destroy (fun r' v' => r' = r ∧ i_Rel (k + 4) u' v') v v1) u v1 := by
  have I0 := i_up I
  obtain ⟨b, l, c, nx, K, nu, co, mk, ob, U, S, w, rfl, rfl, hB, hC, hU, hx⟩ := I
  have hc := hC.1
  obtain ⟨r, hr, hX, hY⟩ := bz_find b l nx K U nu co mk ob S w hc v1
  unfold wpX_destroy
  dsimp only
  refine hX _ ?_
  rcases hr with rfl | ⟨s, hs, rfl⟩
  · refine br_t rfl ?_
    unfold wpY_destroy
    dsimp only
    refine hY _ ?_
    exact br_f (by decide) ⟨rfl, I0⟩
  · refine br_f (bq_nm1 (by omega)) ?_
    refine bx_take hc hs (bz_mk hC) ?_
    dsimp only
    unfold wpY_destroy
    dsimp only
    refine hY _ ?_
    refine br_t (nI_pos' (by omega)) ?_
    refine by_take hc hs (bz_ob hC) ?_
    exact ⟨rfl, b, l, _, nx, _, _, _, _, _, U, S, w, rfl, rfl, hB, bz_takeC hC hs, hU, by omega⟩
theorem i_vc_get {k : Nat} {u : SX} {v : SY} (I : i_Rel k u v) (hk : k + 4 ≤ 2048) : wpX_get (fun r => wpY_get (fun r' => r' = r ∧ i_Rel (k + 4) u v) v) u := by
  have I0 := i_up I
  obtain ⟨b, l, c, nx, K, nu, co, mk, ob, U, S, w, rfl, rfl, hB, hC, hU, hx⟩ := I
  have hc := hC.1
  unfold wpX_get wpY_get
  dsimp only
  rcases bz_pres (q := b) hC with ⟨s, hs, e, hN, hm, ho⟩ | ⟨hm, ho⟩
  · refine bx_cur1 hc hC.2.1 hB.1 hs e hN hm ?_
    refine br_f (bq_nm1 (by omega)) ⟨vp_in_nI (by omega) (by decide), ?_⟩
    refine by_new1 hc hC.2.1 hB.1 hs e hN ?_
    exact br_f (nI_pos (by omega)) ⟨vp_in_nI (by omega) (by decide), br_f (fun z => absurd (((congrArg ob (nI_clamp (by omega))).trans ho).symm.trans z) (by decide)) ⟨vp_in_nI (by omega) (by decide), rfl, I0⟩⟩
  · refine bx_cur0 hc hC.2.1 hB.1 hm ?_
    refine br_t rfl ?_
    by_cases hx : ∃ s, s < c ∧ K s = b ∧ bq_N K b c (s + 1) = 0
    · obtain ⟨s, hs, e, hN⟩ := hx
      refine by_new1 hc hC.2.1 hB.1 hs e hN ?_
      exact br_f (nI_pos (by omega)) ⟨vp_in_nI (by omega) (by decide), br_t ((congrArg ob (nI_clamp (by omega))).trans (ho s hs e hN)) ⟨rfl, I0⟩⟩
    · refine by_new0 hc hC.2.1 hB.1 (fun s hs e => hx (bq_newest hs e)) ?_
      exact br_t (by decide) ⟨rfl, I0⟩
theorem i_vc_present {k : Nat} {u : SX} {v : SY} (I : i_Rel k u v) (hk : k + 4 ≤ 2048) : wpX_present (fun r => wpY_present (fun r' => r' = r ∧ i_Rel (k + 4) u v) v) u := by
  have I0 := i_up I
  obtain ⟨b, l, c, nx, K, nu, co, mk, ob, U, S, w, rfl, rfl, hB, hC, hU, hx⟩ := I
  have hc := hC.1
  unfold wpX_present wpY_present
  dsimp only
  rcases bz_pres (q := b) hC with ⟨s, hs, e, hN, hm, ho⟩ | ⟨hm, ho⟩
  · refine bx_pr1 hc hC.2.1 hB.1 hs e hN hm ⟨rfl, ?_⟩
    refine by_pr1 hc hC.2.1 hB.1 hs e hN ho ⟨rfl, rfl, I0⟩
  · refine bx_pr0 hc hC.2.1 hB.1 hm ⟨rfl, ?_⟩
    refine by_pr0 hc hC.2.1 hB.1 ho ⟨rfl, rfl, I0⟩
theorem i_vc_content {k : Nat} {u : SX} {v : SY} (I : i_Rel k u v) (hk : k + 4 ≤ 2048) (v1 : Int32) : wpX_content (fun r => wpY_content (fun r' => r' = r ∧ i_Rel (k + 4) u v) v v1) u v1 := by
  have I0 := i_up I
  obtain ⟨b, l, c, nx, K, nu, co, mk, ob, U, S, w, rfl, rfl, hB, hC, hU, hx⟩ := I
  have hc := hC.1
  obtain ⟨r, hr, hX, hY⟩ := bz_find b l nx K U nu co mk ob S w hc v1
  unfold wpX_content wpY_content
  dsimp only
  refine hX _ ?_
  rcases hr with rfl | ⟨s, hs, rfl⟩
  · refine br_t rfl ?_
    refine hY _ ?_
    exact br_t (by decide) ⟨rfl, I0⟩
  · have hi : vp_in (nI s) 24 := vp_in_nI (by omega) (by decide)
    have hcl : (nI s).toNatClampNeg = s := nI_clamp (by omega)
    refine br_f (bq_nm1 (by omega)) ⟨hi, ?_⟩
    rcases hC.2.2.2 s hs with ⟨hm, ho⟩ | ⟨hm, ho⟩
    · refine br_t ((congrArg mk hcl).trans hm) ⟨hi, ?_⟩
      refine hY _ ?_
      exact br_f (nI_pos (by omega)) ⟨hi, br_f (fun z => absurd (((congrArg ob hcl).trans ho).symm.trans z) (by decide)) ⟨hi, rfl, I0⟩⟩
    · refine br_f (fun z => absurd (((congrArg mk hcl).trans hm).symm.trans z) (by decide)) ?_
      refine hY _ ?_
      exact br_f (nI_pos (by omega)) ⟨hi, br_t ((congrArg ob hcl).trans ho) ⟨rfl, I0⟩⟩
section
variable {b l c nx : Nat} {K U : Nat → Nat} {nu co mk ob S w : Nat → Int32}
theorem by_vat_l {post : Int32 → Prop} {i : Int32} (hc : c ≤ 24) (hV : ∀ j, bq_V (K j)) (hb : bq_V b) (h1 : (∀ s, s < c → K s = b → nI (bq_N K b c (s + 1)) ≠ i) → post (-7)) (h2 : ∀ s, s < c → K s = b → nI (bq_N K b c (s + 1)) = i → post (nu s)) : ∀ d j, j + d = c → (∀ s, s < j → K s = b → nI (bq_N K b c (s + 1)) ≠ i) → wY_versionAt_2 post i (nI (bq_c b)) (nI l) (nI nx) (nI c) nu (fun i => nI (bq_c (K i))) ob co (fun i => nI (bq_c (U i))) (bq_h S) w (d + 1) (nI j) := by
  intro d
  induction d with
  | zero =>
    intro j hj hn
    obtain rfl : j = c := by omega
    exact br_t (nI_le (by omega) (by omega)) (h1 hn)
  | succ d ih =>
    intro j hj hn
    have hcl : (nI j).toNatClampNeg = j := nI_clamp (by omega)
    have hi : vp_in (nI j) 24 := vp_in_nI (by omega) (by decide)
    refine br_f (nI_ge (by omega) (by omega)) ⟨hi, ?_⟩
    refine pk_eq (bq_c (K j)) (bq_c b) (fun e => ?_) (fun e => ?_) (congrArg (fun j => nI (bq_c (K j))) hcl) rfl (by have := bq_lt (hV j); omega) (by have := bq_lt hb; omega)
    · have e2 := bq_inj (hV j) hb e
      refine by_newer hc hV (by omega) ?_
      rw [e2]
      refine br_c (fun hz => ⟨hi, ?_⟩) (fun hz => nm_r (nI_1 j) (ih _ (by omega) (fun s hs es => ?_)))
      · rw [hcl]
        exact h2 j (by omega) e2 hz
      · by_cases e3 : s = j
        · subst e3
          exact hz
        · exact hn s (by omega) es
    · refine nm_r (nI_1 j) (ih _ (by omega) (fun s hs es => ?_))
      by_cases e3 : s = j
      · subst e3
        exact absurd (congrArg bq_c es) e
      · exact hn s (by omega) es
end
theorem i_vc_versionAt {k : Nat} {u : SX} {v : SY} (I : i_Rel k u v) (hk : k + 4 ≤ 2048) (v1 : Int32) : wpX_versionAt (fun r => wpY_versionAt (fun r' => r' = r ∧ i_Rel (k + 4) u v) v v1) u v1 := by
  have I0 := i_up I
  obtain ⟨b, l, c, nx, K, nu, co, mk, ob, U, S, w, rfl, rfl, hB, hC, hU, hx⟩ := I
  have hc := hC.1
  unfold wpX_versionAt wpY_versionAt
  dsimp only
  refine bx_slot hc hC.2.1 hB.1 (fun hn => ?_) (fun s hs e hN => ?_)
  · refine br_t rfl ⟨c + 1, by_vat_l hc hC.2.1 hB.1 (fun _ => ⟨rfl, I0⟩) (fun t ht et hN' => absurd hN' (hn t ht et)) c 0 (by omega) (fun s hs => absurd hs (by omega))⟩
  · have hcl : (nI s).toNatClampNeg = s := nI_clamp (by omega)
    refine br_f (bq_nm1 (by omega)) ⟨vp_in_nI (by omega) (by decide), c + 1, by_vat_l hc hC.2.1 hB.1 (fun hn => absurd hN (hn s hs e)) (fun t ht et hN' => ⟨?_, I0⟩) c 0 (by omega) (fun s hs => absurd hs (by omega))⟩
    have b1 := bq_Nc (K := K) (q := b) (c := c) (s := t + 1)
    have b2 := bq_Nc (K := K) (q := b) (c := c) (s := s + 1)
    cases bq_un hs e ht et (bq_ni (by omega) (by omega) (hN.trans hN'.symm))
    rw [hcl]
