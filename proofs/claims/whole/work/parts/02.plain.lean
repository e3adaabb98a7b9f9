theorem i_up {k : Nat} {u : SX} {v : SY} (h : i_Rel k u v) : i_Rel (k + 3) u v := h
theorem i_vc0 : wpX_init (fun u => wpY_init (fun v => i_Rel 0 u v)) :=
  ⟨0, 0, 0, fun _ => 0, fun _ => 0, fun _ => 0, fun _ => 0, fun _ => 0, by omega, rfl, rfl, fun _ _ => ⟨Nat.zero_le 4, rfl, fun _ _ => rfl⟩⟩
theorem i_vc_draft {k : Nat} {u : SX} {v : SY} (I : i_Rel k u v) (hk : k + 3 ≤ 1536) (v1 : Int32) : wpX_draft (fun r u' => wpY_draft (fun r' v' => r' = r ∧ i_Rel (k + 3) u' v') v v1) u v1 := by
  obtain ⟨d, c, s, wx, wy, sz, dr, g, hd, rfl, rfl, h⟩ := I
  by_cases h4 : d < 4
  · have hX : nI d < 4 := by rw [← fv_4]; exact nI_lt h4 (by omega)
    have hY : ¬ nI d = 4 := by rw [← fv_4, nI_eq (by omega) (by omega)]; omega
    have hi : vp_in (nI d) 4 := vp_in_nI h4 (by omega)
    refine br_t hX ⟨hi, fun a ea x ex => br_f hY ⟨hi, fun a' ea' x' ex' => ?_⟩⟩
    rw [ea, ex, ea', ex', nI_1]
    exact ⟨rfl, d + 1, c, s, wx, wy, sz, _, g, by omega, rfl, rfl, h⟩
  · have e4 : d = 4 := by omega
    subst e4
    have hX : ¬ nI 4 < 4 := by rw [fv_4]; decide
    exact br_f hX (br_t fv_4 ⟨rfl, 4, c, s, wx, wy, sz, dr, g, hd, rfl, rfl, h⟩)
theorem i_vc_scrap {k : Nat} {u : SX} {v : SY} (I : i_Rel k u v) (hk : k + 3 ≤ 1536) : wpX_scrap (fun u' => wpY_scrap (fun v' => i_Rel (k + 3) u' v') v) u := by
  obtain ⟨d, c, s, wx, wy, sz, dr, g, hd, rfl, rfl, h⟩ := I
  exact ⟨0, c, s, wx, wy, sz, dr, g, by omega, rfl, rfl, h⟩
theorem i_vc_size {k : Nat} {u : SX} {v : SY} (I : i_Rel k u v) (hk : k + 3 ≤ 1536) (v1 : Int32) : wpX_size (fun r => wpY_size (fun r' => r' = r ∧ i_Rel (k + 3) u v) v v1) u v1 := by
  have R : i_Rel (k + 3) u v := I
  obtain ⟨d, c, s, wx, wy, sz, dr, g, hd, rfl, rfl, h⟩ := I
  rcases fv_blk v1 with ⟨hX, hY⟩ | ⟨b, hb, rfl, hX, hY⟩
  · unfold wpX_size wpY_size
    dsimp only
    refine hX _ (br_t rfl ?_)
    exact hY _ _ (br_t rfl ⟨rfl, R⟩)
  · have hi : vp_in (nI b) 8 := vp_in_nI hb (by omega)
    unfold wpX_size wpY_size
    dsimp only
    refine hX _ (br_f (by decide) ⟨hi, ?_⟩)
    exact hY _ _ (br_f (by decide) ⟨hi, rfl, R⟩)
theorem i_vc_read {k : Nat} {u : SX} {v : SY} (I : i_Rel k u v) (hk : k + 3 ≤ 1536) (v1 : Int32) (v2 : Int32) : wpX_read (fun r => wpY_read (fun r' => r' = r ∧ i_Rel (k + 3) u v) v v1 v2) u v1 v2 := by
  have R : i_Rel (k + 3) u v := I
  obtain ⟨d, c, s, wx, wy, sz, dr, g, hd, rfl, rfl, h⟩ := I
  rcases fv_blk v1 with ⟨hX, hY⟩ | ⟨b, hb, rfl, hX, hY⟩
  · unfold wpX_read wpY_read
    dsimp only
    refine hX _ (br_t rfl ?_)
    exact hY _ _ (br_t rfl ⟨rfl, R⟩)
  · have hi : vp_in (nI b) 8 := vp_in_nI hb (by omega)
    obtain ⟨hg, hs, hw⟩ := h b hb
    have hcl : (nI b).toNatClampNeg = b := nI_clamp (by omega)
    unfold wpX_read wpY_read
    dsimp only
    by_cases h0 : v2 < 0
    · refine hX _ (br_f (by decide) (br_t h0 ?_))
      exact hY _ _ (br_f (by decide) (br_t h0 ⟨rfl, R⟩))
    · obtain ⟨j, hj, rfl⟩ := nI_of h0
      by_cases h1 : j < g b
      · have hlt : nI j < sz (nI b).toNatClampNeg := by rw [hcl, hs]; exact nI_lt h1 (by omega)
        have hle : ¬ sz (nI b).toNatClampNeg ≤ nI j := by rw [hcl, hs]; exact nI_ge h1 (by omega)
        have hi2 : vp_in (nI (b * 4 + j)) 32 := vp_in_nI (by omega) (by omega)
        have hc2 : (nI (b * 4 + j)).toNatClampNeg = b * 4 + j := nI_clamp (by omega)
        refine hX _ (br_f (by decide) (br_f h0 ⟨hi, br_t hlt ?_⟩))
        rw [fv_ix]
        refine ⟨hi2, ?_⟩
        refine hY _ _ (br_f (by decide) (br_f h0 ⟨hi, br_f hle ?_⟩))
        rw [fv_iy]
        refine ⟨hi2, ?_, R⟩
        rw [hc2]
        exact (hw j h1).symm
      · have hlt : ¬ nI j < sz (nI b).toNatClampNeg := by rw [hcl, hs]; exact nI_nlt (by omega) (by omega)
        have hle : sz (nI b).toNatClampNeg ≤ nI j := by rw [hcl, hs]; exact nI_le (by omega) (by omega)
        refine hX _ (br_f (by decide) (br_f h0 ⟨hi, br_f hlt ?_⟩))
        exact hY _ _ (br_f (by decide) (br_f h0 ⟨hi, br_t hle ⟨rfl, R⟩⟩))
theorem i_vc_cutAfter {k : Nat} {u : SX} {v : SY} (I : i_Rel k u v) (hk : k + 3 ≤ 1536) (v1 : Int32) : wpX_cutAfter (fun r u' => wpY_cutAfter (fun r' v' => r' = r ∧ i_Rel (k + 3) u' v') v v1) u v1 := by
  have R : i_Rel (k + 3) u v := I
  obtain ⟨d, c, s, wx, wy, sz, dr, g, hd, rfl, rfl, h⟩ := I
  by_cases h0 : v1 < 0
  · exact br_t h0 (br_t h0 ⟨rfl, R⟩)
  · by_cases h1 : v1 ≤ 40
    · exact br_f h0 (br_t h1 (br_f h0 (br_t h1 ⟨rfl, d, 1, v1, wx, wy, sz, dr, g, hd, rfl, rfl, h⟩)))
    · exact br_f h0 (br_f h1 (br_f h0 (br_f h1 ⟨rfl, R⟩)))
theorem i_vc_cancel {k : Nat} {u : SX} {v : SY} (I : i_Rel k u v) (hk : k + 3 ≤ 1536) : wpX_cancel (fun r u' => wpY_cancel (fun r' v' => r' = r ∧ i_Rel (k + 3) u' v') v) u := by
  obtain ⟨d, c, s, wx, wy, sz, dr, g, hd, rfl, rfl, h⟩ := I
  by_cases h0 : c = 0
  · subst h0
    exact br_t rfl (br_t rfl ⟨rfl, d, 0, s, wx, wy, sz, dr, g, hd, rfl, rfl, h⟩)
  · exact br_f h0 (br_f h0 ⟨rfl, d, 0, s, wx, wy, sz, dr, g, hd, rfl, rfl, h⟩)
theorem i_vc_restart {k : Nat} {u : SX} {v : SY} (I : i_Rel k u v) (hk : k + 3 ≤ 1536) : wpX_restart (fun u' => wpY_restart (fun v' => i_Rel (k + 3) u' v') v) u := by
  obtain ⟨d, c, s, wx, wy, sz, dr, g, hd, rfl, rfl, h⟩ := I
  exact ⟨0, 0, s, wx, wy, sz, dr, g, by omega, rfl, rfl, h⟩
theorem i_vc_drafted {k : Nat} {u : SX} {v : SY} (I : i_Rel k u v) (hk : k + 3 ≤ 1536) : wpX_drafted (fun r => wpY_drafted (fun r' => r' = r ∧ i_Rel (k + 3) u v) v) u := by
  have R : i_Rel (k + 3) u v := I
  obtain ⟨d, c, s, wx, wy, sz, dr, g, hd, rfl, rfl, h⟩ := I
  exact ⟨rfl, R⟩
theorem i_vc_rest {k : Nat} {u : SX} {v : SY} (I : i_Rel k u v) (hk : k + 3 ≤ 1536) (v1 : Int32) : wpX_rest (fun u' => wpY_rest (fun v' => i_Rel (k + 3) u' v') v v1) u v1 := by
  have R : i_Rel (k + 3) u v := I
  obtain ⟨d, c, s, wx, wy, sz, dr, g, hd, rfl, rfl, h⟩ := I
  exact R
theorem i_vc_fail {k : Nat} {u : SX} {v : SY} (I : i_Rel k u v) (hk : k + 3 ≤ 1536) : wpX_fail (fun u' => wpY_fail (fun v' => i_Rel (k + 3) u' v') v) u := by
  have R : i_Rel (k + 3) u v := I
  obtain ⟨d, c, s, wx, wy, sz, dr, g, hd, rfl, rfl, h⟩ := I
  exact R
