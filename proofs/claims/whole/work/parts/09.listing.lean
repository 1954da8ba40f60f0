theorem i_vc_list {k : Nat} {u : SX} {v : SY} (I : i_Rel k u v) (hk : k + 4 ≤ 2048) (v1 : Int32) : wpX_list (fun r => wpY_list (fun r' => r' = r ∧ i_Rel (k + 4) u v) v (lw_bz v1)) u (lw_bz v1) := by
  have I0 := i_up I
  obtain ⟨b, l, c, nx, K, nu, co, mk, ob, U, S, w, rfl, rfl, hB, hC, hU, hx⟩ := I
  obtain ⟨m, hm, hX, hY⟩ := bz_eb nx U nu co S w hB hC (lw_bz v1) bq_V0
  obtain ⟨r, rX, rY⟩ := bz_list_l (nx := nx) (U := U) (nu := nu) (co := co) (S := S) (w := w) hB hC (lw_bz v1) 24 0 0 m (by omega) hm hX
  unfold wpX_list wpY_list
  dsimp only
  rw [bq_c0] at hY
  exact ⟨25, rX _ (hY _ ⟨25, rY _ ⟨rfl, I0⟩⟩)⟩
theorem i_vc_entry {k : Nat} {u : SX} {v : SY} (I : i_Rel k u v) (hk : k + 4 ≤ 2048) (v1 : Int32) (v2 : Int32) : wpX_entry (fun r => wpY_entry (fun r' => r' = r ∧ i_Rel (k + 4) u v) v v1 (lw_bz v2)) u v1 (lw_bz v2) := by
  have I0 := i_up I
  obtain ⟨b, l, c, nx, K, nu, co, mk, ob, U, S, w, rfl, rfl, hB, hC, hU, hx⟩ := I
  obtain ⟨m, hm, hX, hY⟩ := bz_eb nx U nu co S w hB hC (lw_bz v2) bq_V0
  rw [bq_c0] at hY
  unfold wpX_entry wpY_entry
  dsimp only
  rcases pk_ix v1 (n := 24) (by decide) with h0 | h24 | ⟨i, hi, rfl⟩
  · have hn : ∀ n, n < 24 → ¬ nI n = v1 := fun n hn e => nI_pos (n := n) (by omega) (by rw [e]; exact h0)
    exact br_t h0 (hY _ ⟨25, by_ent_n hn hB hC (lw_bz v2) ⟨rfl, I0⟩ 24 0 m (by omega) hm⟩)
  · have h0 : ¬ v1 < 0 := fun z => absurd (Int32.lt_of_le_of_lt h24 z) (by decide)
    have h1 : ¬ v1 < 24 := fun z => absurd (Int32.lt_of_le_of_lt h24 z) (by decide)
    have hn : ∀ n, n < 24 → ¬ nI n = v1 := fun n hn e => nI_ge (a := n) (b := 24) hn (by decide) (by rw [e]; exact h24)
    exact br_f h0 (br_f h1 (hY _ ⟨25, by_ent_n hn hB hC (lw_bz v2) ⟨rfl, I0⟩ 24 0 m (by omega) hm⟩))
  · obtain ⟨r, rX, rY⟩ := bz_ent_l (nx := nx) (U := U) (nu := nu) (co := co) (S := S) (w := w) hi hB hC (lw_bz v2) i 0 0 m (by omega) hm hX
    exact br_f (nI_pos (by omega)) (br_t (nI_lt (b := 24) hi (by decide)) ⟨i + 1 + 1, rX _ (hY _ ⟨i + 1, rY _ ⟨rfl, I0⟩⟩)⟩)
