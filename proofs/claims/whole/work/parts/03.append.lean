theorem fv_append {u : SX} {v : SY} (I : i_Rel 0 u v) (p w : Int32) : ∃ (r : Int32) (u' : SX) (v' : SY), i_Rel 0 u' v' ∧ (∀ post : Int32 → SX → Prop, post r u' → wpX_append post u p w) ∧ (∀ post : Int32 → SY → Prop, post r v' → wpY_append post v p w) := by
  have R : i_Rel 0 u v := I
  obtain ⟨d, c, s, wx, wy, sz, dr, g, hd, rfl, rfl, h⟩ := I
  rcases fv_blk p with ⟨hX, hY⟩ | ⟨b, hb, rfl, hX, hY⟩
  · refine ⟨-1, _, _, R, fun post hp => ?_, fun post hp => ?_⟩
    · unfold wpX_append
      dsimp only
      exact hX _ (br_t rfl hp)
    · unfold wpY_append
      dsimp only
      exact hY _ _ (br_t rfl hp)
  · obtain ⟨hg, hs, hw⟩ := h b hb
    have hcl : (nI b).toNatClampNeg = b := nI_clamp (by omega)
    have hi : vp_in (nI b) 8 := vp_in_nI hb (by omega)
    by_cases h4 : g b = 4
    · have nX : ¬ nI (g b) < 4 := by rw [h4, fv_4]; decide
      have nY : nI (g b) = 4 := by rw [h4, fv_4]
      refine ⟨-2, _, _, R, fun post hp => ?_, fun post hp => ?_⟩
      · unfold wpX_append
        dsimp only
        refine hX _ (br_f (by decide) ⟨hi, ?_⟩)
        rw [hcl, hs]
        exact nm_e (br_f nX hp)
      · unfold wpY_append
        dsimp only
        refine hY _ _ (br_f (by decide) ⟨hi, ?_⟩)
        rw [hcl, hs]
        exact br_t nY hp
    · have h4' : g b < 4 := by omega
      have nX : nI (g b) < 4 := by rw [← fv_4]; exact nI_lt h4' (by omega)
      have nY : ¬ nI (g b) = 4 := by rw [← fv_4, nI_eq (by omega) (by omega)]; exact h4
      have hi2 : vp_in (nI (b * 4 + g b)) 32 := vp_in_nI (by omega) (by omega)
      have hc2 : (nI (b * 4 + g b)).toNatClampNeg = b * 4 + g b := nI_clamp (by omega)
      -- once the tail behind the choice of steps is walked, the heads are the same
      have headX : ∀ post : Int32 → SX → Prop, wX_append_34 post (nI b) w (nI (g b)) (if g b = 0 then 2 else 1) (nI d) c s wx sz dr → wpX_append post (nI d, c, s, wx, sz, dr) (nI b) w := by
        intro post T
        unfold wpX_append
        dsimp only
        refine hX _ (br_f (by decide) ⟨hi, ?_⟩)
        rw [hcl, hs]
        refine nm_e (br_t nX ?_)
        by_cases h0 : g b = 0
        · rw [if_pos h0] at T
          exact br_t (by rw [h0]; exact nI_0) T
        · rw [if_neg h0] at T
          exact br_f (nI_ne0 (by omega) (by omega)) T
      have headY : ∀ post : Int32 → SY → Prop, wY_append_38 post (nI b) w (if g b = 0 then 2 else 1) (nI d) c s wy sz dr → wpY_append post (nI d, c, s, wy, sz, dr) (nI b) w := by
        intro post T
        unfold wpY_append
        dsimp only
        refine hY _ _ (br_f (by decide) ⟨hi, ?_⟩)
        rw [hcl, hs]
        refine br_f nY ⟨hi, ?_⟩
        by_cases h0 : g b = 0
        · rw [if_pos h0] at T
          exact br_t (by rw [h0, nI_0]; exact Int32.le_refl 0) T
        · rw [if_neg h0] at T
          exact br_f (nI_nle (by omega) (by omega)) T
      obtain ⟨r, d', c', s', hr, pX, pY⟩ := fv_pw d c s (if g b = 0 then 2 else 1) sz dr
      rcases hr with ⟨rfl, rfl⟩ | ⟨hr, rfl⟩
      · refine ⟨nI (g b + 1), (nI d', c', s', upd wx (b * 4 + g b) w, upd sz b (nI (g b + 1)), dr), (nI d', c', s', upd wy (b * 4 + g b) w, upd sz b (nI (g b + 1)), dr), ?_, fun post hp => headX post ?_, fun post hp => headY post ?_⟩
        · refine ⟨d', c', s', _, _, _, dr, _, hd, rfl, rfl, fv_S_set h (by omega) (fun i hi => ?_) (fun a i ha hi => ?_) (fun a i ha hi => ?_)⟩
          · by_cases e : i = g b
            · subst e
              rw [pk_us, pk_us]
            · have ne : b * 4 + i ≠ b * 4 + g b := by omega
              rw [pk_un ne, pk_un ne]
              exact hw i (by omega)
          · exact pk_un (by omega)
          · exact pk_un (by omega)
        · unfold wX_append_34
          refine pX _ _ (br_t rfl ?_)
          rw [fv_ix, hc2, hcl, nI_1]
          exact ⟨hi2, nm_e ⟨hi, nm_e hp⟩⟩
        · unfold wY_append_38
          refine pY _ _ (br_t rfl ?_)
          rw [hcl, hs, fv_iy, hc2, nI_1]
          refine ⟨hi, hi2, nm_e ⟨hi, hi, nm_e ⟨hi, ?_⟩⟩⟩
          rw [pk_us]
          exact hp
      · refine ⟨-9, (nI 0, c', s', wx, sz, dr), (nI 0, c', s', wy, sz, dr), ⟨0, c', s', wx, wy, sz, dr, g, by omega, rfl, rfl, h⟩, fun post hp => headX post ?_, fun post hp => headY post ?_⟩
        · unfold wX_append_34
          exact pX _ _ (br_f hr hp)
        · unfold wY_append_38
          exact pY _ _ (br_f hr hp)
theorem fv_drop {u : SX} {v : SY} (I : i_Rel 0 u v) (p : Int32) : ∃ (r : Int32) (u' : SX) (v' : SY), i_Rel 0 u' v' ∧ (∀ post : Int32 → SX → Prop, post r u' → wpX_drop post u p) ∧ (∀ post : Int32 → SY → Prop, post r v' → wpY_drop post v p) := by
  have R : i_Rel 0 u v := I
  obtain ⟨d, c, s, wx, wy, sz, dr, g, hd, rfl, rfl, h⟩ := I
  rcases fv_blk p with ⟨hX, hY⟩ | ⟨b, hb, rfl, hX, hY⟩
  · refine ⟨-1, _, _, R, fun post hp => ?_, fun post hp => ?_⟩
    · unfold wpX_drop
      dsimp only
      exact hX _ (br_t rfl hp)
    · unfold wpY_drop
      dsimp only
      exact hY _ _ (br_t rfl hp)
  · obtain ⟨hg, hs, hw⟩ := h b hb
    have hcl : (nI b).toNatClampNeg = b := nI_clamp (by omega)
    have hi : vp_in (nI b) 8 := vp_in_nI hb (by omega)
    by_cases h0 : g b = 0
    · have n0 : nI (g b) = 0 := by rw [h0]; exact nI_0
      refine ⟨-4, _, _, R, fun post hp => ?_, fun post hp => ?_⟩
      · unfold wpX_drop
        dsimp only
        refine hX _ (br_f (by decide) ⟨hi, ?_⟩)
        rw [hcl, hs]
        exact nm_e (br_t n0 hp)
      · unfold wpY_drop
        dsimp only
        refine hY _ _ (br_f (by decide) ⟨hi, ?_⟩)
        rw [hcl, hs]
        exact br_t n0 hp
    · have n0 : ¬ nI (g b) = 0 := nI_ne0 (by omega) (by omega)
      obtain ⟨r, d', c', s', hr, pX, pY⟩ := fv_pw d c s 1 sz dr
      rcases hr with ⟨rfl, rfl⟩ | ⟨hr, rfl⟩
      · refine ⟨nI (g b), (nI d', c', s', wx, upd sz b (nI 0), dr), (nI d', c', s', wy, upd sz b (nI 0), dr), ?_, fun post hp => ?_, fun post hp => ?_⟩
        · exact ⟨d', c', s', wx, wy, _, dr, _, hd, rfl, rfl, fv_S_set h (Nat.zero_le 4) (fun i hi => absurd hi (Nat.not_lt_zero i)) (fun _ _ _ _ => rfl) (fun _ _ _ _ => rfl)⟩
        · unfold wpX_drop
          dsimp only
          refine hX _ (br_f (by decide) ⟨hi, ?_⟩)
          rw [hcl, hs]
          refine nm_e (br_f n0 ?_)
          exact pX _ _ (br_t rfl ⟨hi, nm_e hp⟩)
        · unfold wpY_drop
          dsimp only
          refine hY _ _ (br_f (by decide) ⟨hi, ?_⟩)
          rw [hcl, hs]
          refine br_f n0 ?_
          refine pY _ _ (br_t rfl ⟨hi, ?_⟩)
          dsimp only
          rw [hs]
          exact nm_e ⟨hi, nm_e hp⟩
      · refine ⟨-9, (nI 0, c', s', wx, sz, dr), (nI 0, c', s', wy, sz, dr), ⟨0, c', s', wx, wy, sz, dr, g, by omega, rfl, rfl, h⟩, fun post hp => ?_, fun post hp => ?_⟩
        · unfold wpX_drop
          dsimp only
          refine hX _ (br_f (by decide) ⟨hi, ?_⟩)
          rw [hcl, hs]
          refine nm_e (br_f n0 ?_)
          exact pX _ _ (br_f hr hp)
        · unfold wpY_drop
          dsimp only
          refine hY _ _ (br_f (by decide) ⟨hi, ?_⟩)
          rw [hcl, hs]
          refine br_f n0 ?_
          exact pY _ _ (br_f hr hp)
