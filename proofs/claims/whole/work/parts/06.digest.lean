theorem fv_dg12 {g : Nat → Nat} {sz wx wy : Nat → Int32} (h : fv_S g sz wx wy) {b : Nat} (hb : b < 8) (d c s : Int32) (dr : Nat → Int32) : ∀ (m i : Nat) (sum : Int32), i + m = g b → ∃ r : Int32,
    (∀ (post : Int32 → Prop) (J : Int32 → Int32 → Prop), J r (nI (b + 1)) → wX_digest_12 post J (nI b) d c s wx sz dr (m + 1) sum (nI i)) ∧
    (∀ (post : Int32 → Prop) (J : Int32 → Int32 → Prop), J r (nI (b + 1)) → wY_digest_12 post J (nI b) d c s wy sz dr (m + 1) sum (nI i)) := by
  obtain ⟨hg, hs, hw⟩ := h b hb
  have hcl : (nI b).toNatClampNeg = b := nI_clamp (by omega)
  have hi : vp_in (nI b) 8 := vp_in_nI hb (by omega)
  intro m
  induction m with
  | zero =>
    intro i sum hm
    have e : sz (nI b).toNatClampNeg ≤ nI i := by rw [hcl, hs]; exact nI_le (by omega) (by omega)
    refine ⟨sum, fun post J hp => ⟨hi, br_t e ?_⟩, fun post J hp => ⟨hi, br_t e ?_⟩⟩
    · rw [nI_1]
      exact nm_e hp
    · rw [nI_1]
      exact nm_e hp
  | succ m ih =>
    intro i sum hm
    have e : ¬ sz (nI b).toNatClampNeg ≤ nI i := by rw [hcl, hs]; exact nI_ge (by omega) (by omega)
    have hi2 : vp_in (nI (b * 4 + i)) 32 := vp_in_nI (by omega) (by omega)
    have hc2 : (nI (b * 4 + i)).toNatClampNeg = b * 4 + i := nI_clamp (by omega)
    obtain ⟨r, hX, hY⟩ := ih (i + 1) (sum + (nI (b * 4 + i) + 1) * wx (b * 4 + i)) (by omega)
    refine ⟨r, fun post J hp => ⟨hi, br_f e ?_⟩, fun post J hp => ⟨hi, br_f e ?_⟩⟩
    · rw [fv_ix]
      refine nm_e ⟨hi2, ?_⟩
      rw [hc2]
      refine nm_e ?_
      rw [nI_1 i]
      exact nm_e (hX post J hp)
    · rw [fv_iy, hc2, ← hw i (by omega)]
      refine ⟨hi2, nm_e ?_⟩
      rw [nI_1 i]
      exact nm_e (hY post J hp)
theorem fv_dg4 {g : Nat → Nat} {sz wx wy : Nat → Int32} (h : fv_S g sz wx wy) (d c s : Int32) (dr : Nat → Int32) : ∀ (m b : Nat) (sum : Int32), b + m = 8 → ∃ r : Int32,
    (∀ post : Int32 → Prop, post r → wX_digest_4 post d c s wx sz dr (m + 1) sum (nI b)) ∧
    (∀ post : Int32 → Prop, post r → wY_digest_4 post d c s wy sz dr (m + 1) sum (nI b)) := by
  intro m
  induction m with
  | zero =>
    intro b sum hm
    have e : (8 : Int32) ≤ nI b := by rw [← fv_8]; exact nI_le (by omega) (by omega)
    exact ⟨sum, fun _ hp => br_t e hp, fun _ hp => br_t e hp⟩
  | succ m ih =>
    intro b sum hm
    have e : ¬ (8 : Int32) ≤ nI b := by rw [← fv_8]; exact nI_ge (by omega) (by omega)
    obtain ⟨r1, iX, iY⟩ := fv_dg12 h (b := b) (by omega) d c s dr (g b) 0 sum (by omega)
    obtain ⟨r, hX, hY⟩ := ih (b + 1) r1 (by omega)
    refine ⟨r, fun post hp => br_f e ⟨g b + 1, ?_⟩, fun post hp => br_f e ⟨g b + 1, ?_⟩⟩
    · exact iX post _ (hX post hp)
    · exact iY post _ (hY post hp)
theorem i_vc_digest {k : Nat} {u : SX} {v : SY} (I : i_Rel k u v) (hk : k + 3 ≤ 1536) : wpX_digest (fun r => wpY_digest (fun r' => r' = r ∧ i_Rel (k + 3) u v) v) u := by
  have R : i_Rel (k + 3) u v := I
  obtain ⟨d, c, s, wx, wy, sz, dr, g, hd, rfl, rfl, h⟩ := I
  obtain ⟨r, hX, hY⟩ := fv_dg4 h (nI d) c s dr 8 0 0 rfl
  exact ⟨9, hX _ ⟨9, hY _ ⟨rfl, R⟩⟩⟩
