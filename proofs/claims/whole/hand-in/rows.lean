section
/-! Pasted from kit/rows (PURE-ROWS): pk_us, pk_un, pk_mul, pk_ix. The rest is this claim's own. -/
theorem pk_us {f : Nat → Int32} {k : Nat} {x : Int32} : upd f k x k = x := if_pos rfl
theorem pk_un {f : Nat → Int32} {k j : Nat} {x : Int32} (h : j ≠ k) : upd f k x j = f j := if_neg h
theorem pk_mul (a b : Nat) : nI a * nI b = nI (a * b) := (Int32.ofNat_mul a b).symm
theorem pk_ix (x : Int32) {n : Nat} (hn : n < 2 ^ 31) : x < 0 ∨ nI n ≤ x ∨ ∃ j : Nat, j < n ∧ x = nI j := by
  by_cases h : x < 0
  · exact Or.inl h
  · obtain ⟨j, hj, rfl⟩ := nI_of h
    by_cases h2 : j < n
    · exact Or.inr (Or.inr ⟨j, h2, rfl⟩)
    · exact Or.inr (Or.inl (nI_le (by omega) hj))
theorem fv_4 : nI 4 = 4 := by decide +kernel
theorem fv_7 : nI 7 = 7 := by decide +kernel
theorem fv_8 : nI 8 = 8 := by decide +kernel
theorem fv_ix (b i : Nat) : nI b * 4 + nI i = nI (b * 4 + i) := by
  rw [← fv_4, pk_mul, nI_add]
theorem fv_iy (b i : Nat) : 4 * nI b + nI i = nI (b * 4 + i) := by
  rw [← fv_4, pk_mul, nI_add, Nat.mul_comm]
/-- the sizes are numbers up to four, and below a block's size the two memories hold the same words -/
def fv_S (g : Nat → Nat) (sz wx wy : Nat → Int32) : Prop :=
  ∀ b, b < 8 → g b ≤ 4 ∧ sz b = nI (g b) ∧ ∀ i, i < g b → wx (b * 4 + i) = wy (b * 4 + i)
/-- all but the words is the same on both sides; the words agree below each block's size -/
def i_Rel (_ : Nat) (u : SX) (v : SY) : Prop :=
  ∃ (d : Nat) (c s : Int32) (wx wy sz dr : Nat → Int32) (g : Nat → Nat), d ≤ 4 ∧ u = (nI d, c, s, wx, sz, dr) ∧ v = (nI d, c, s, wy, sz, dr) ∧ fv_S g sz wx wy
theorem fv_S_set {g : Nat → Nat} {sz wx wy wx' wy' : Nat → Int32} {b n : Nat} (h : fv_S g sz wx wy) (hn : n ≤ 4)
    (hin : ∀ i, i < n → wx' (b * 4 + i) = wy' (b * 4 + i))
    (hoX : ∀ a i, a ≠ b → i < 4 → wx' (a * 4 + i) = wx (a * 4 + i))
    (hoY : ∀ a i, a ≠ b → i < 4 → wy' (a * 4 + i) = wy (a * 4 + i)) :
    fv_S (fun j => if j = b then n else g j) (upd sz b (nI n)) wx' wy' := by
  intro a ha
  dsimp only
  obtain ⟨h1, h2, h3⟩ := h a ha
  by_cases e : a = b
  · subst e
    rw [if_pos rfl, pk_us]
    exact ⟨hn, rfl, hin⟩
  · rw [if_neg e, pk_un e]
    refine ⟨h1, h2, fun i hi => ?_⟩
    rw [hoX a i e (by omega), hoY a i e (by omega)]
    exact h3 i hi
theorem fv_blk (p : Int32) : ((∀ post : Int32 → Prop, post 0 → wpX_isBlock post p) ∧ (∀ (post : Int32 → Prop) (v : SY), post 0 → wpY_isBlock post v p)) ∨ ∃ b : Nat, b < 8 ∧ p = nI b ∧ (∀ post : Int32 → Prop, post 1 → wpX_isBlock post p) ∧ (∀ (post : Int32 → Prop) (v : SY), post 1 → wpY_isBlock post v p) := by
  rcases pk_ix p (n := 8) (by omega) with h | h | ⟨b, hb, rfl⟩
  · refine Or.inl ⟨fun _ hp => br_t h hp, fun _ v hp => ?_⟩
    obtain ⟨v1, v2, v3, v4, v5, v6⟩ := v
    exact br_t h hp
  · rw [fv_8] at h
    have h0 : ¬ p < 0 := Int32.not_lt.mpr (Int32.le_trans (by decide) h)
    have h7 : 7 < p := Int32.lt_of_lt_of_le (by decide) h
    refine Or.inl ⟨fun _ hp => br_f h0 (br_t h hp), fun _ v hp => ?_⟩
    obtain ⟨v1, v2, v3, v4, v5, v6⟩ := v
    exact br_f h0 (br_t h7 hp)
  · have h0 : ¬ nI b < 0 := nI_pos (by omega)
    have h8 : ¬ (8 : Int32) ≤ nI b := by rw [← fv_8]; exact nI_ge hb (by omega)
    have h7 : ¬ (7 : Int32) < nI b := by rw [← fv_7]; exact nI_nlt (by omega) (by omega)
    refine Or.inr ⟨b, hb, rfl, fun _ hp => br_f h0 (br_f h8 hp), fun _ v hp => ?_⟩
    obtain ⟨v1, v2, v3, v4, v5, v6⟩ := v
    exact br_f h0 (br_f h7 hp)
theorem fv_pw (d : Nat) (c s z : Int32) (sz dr : Nat → Int32) : ∃ (r : Int32) (d' : Nat) (c' s' : Int32), ((r = 0 ∧ d' = d) ∨ (¬ r = 0 ∧ d' = 0)) ∧ (∀ (wx : Nat → Int32) (post : Int32 → SX → Prop), post r (nI d', c', s', wx, sz, dr) → wpX_powerFailsWithin post (nI d, c, s, wx, sz, dr) z) ∧ (∀ (wy : Nat → Int32) (post : Int32 → SY → Prop), post r (nI d', c', s', wy, sz, dr) → wpY_isCut post (nI d, c, s, wy, sz, dr) z) := by
  by_cases hc : c = 0
  · exact ⟨0, d, c, s, Or.inl ⟨rfl, rfl⟩, fun _ _ hp => br_t hc hp, fun _ _ hp => br_t hc (br_t hc hp)⟩
  · by_cases hz : z ≤ s
    · exact ⟨0, d, c, s - z, Or.inl ⟨rfl, rfl⟩, fun _ _ hp => br_f hc (br_t hz (nm_e hp)), fun _ _ hp => br_f hc (br_t hz (br_f hc (nm_e hp)))⟩
    · exact ⟨1, 0, 0, s, Or.inr ⟨by decide, rfl⟩, fun _ _ hp => br_f hc (br_f hz hp), fun _ _ hp => br_f hc (br_f hz hp)⟩
end
section
theorem i_up {k : Nat} {u : SX} {v : SY} (h : i_Rel k u v) : i_Rel (k + 3) u v := h
theorem i_vc0 : wpX_init (fun u => wpY_init (fun v => i_Rel 0 u v)) :=
  ⟨0, 0, 0, fun _ => 0, fun _ => 0, fun _ => 0, fun _ => 0, fun _ => 0, by omega, rfl, rfl, fun _ _ => ⟨Nat.zero_le 4, rfl, fun _ _ => rfl⟩⟩
theorem i_vc_draft {k : Nat} {u : SX} {v : SY} (I : i_Rel k u v) (hk : k + 3 ≤ 1536) (v1 : Int32) : wpX_draft (fun r u' => wpY_draft (fun r' v' => r' = r ∧ i_Rel (k + 3) u' v') v v1) u v1 := by
  obtain ⟨d, c, s, wx, wy, sz, dr, g, hd, rfl, rfl, h⟩ := I
  by_cases h4 : d < 4
  · have hX : nI d < 4 := by rw [← fv_4]; exact nI_lt h4 (by omega)
    have hY : ¬ nI d = 4 := by rw [← fv_4, nI_eq (by omega) (by omega)]; omega
    have hi : vp_in (nI d) 4 := vp_in_nI h4 (by omega)
    refine br_t hX ⟨hi, fun a ea x ex => br_f hY ⟨hi, fun a' ea' x' ex' => ?_⟩⟩
    rw [ea, ex, ea', ex', nI_1]
    exact ⟨rfl, d + 1, c, s, wx, wy, sz, _, g, by omega, rfl, rfl, h⟩
  · have e4 : d = 4 := by omega
    subst e4
    have hX : ¬ nI 4 < 4 := by rw [fv_4]; decide
    exact br_f hX (br_t fv_4 ⟨rfl, 4, c, s, wx, wy, sz, dr, g, hd, rfl, rfl, h⟩)
theorem i_vc_scrap {k : Nat} {u : SX} {v : SY} (I : i_Rel k u v) (hk : k + 3 ≤ 1536) : wpX_scrap (fun u' => wpY_scrap (fun v' => i_Rel (k + 3) u' v') v) u := by
  obtain ⟨d, c, s, wx, wy, sz, dr, g, hd, rfl, rfl, h⟩ := I
  exact ⟨0, c, s, wx, wy, sz, dr, g, by omega, rfl, rfl, h⟩
theorem i_vc_size {k : Nat} {u : SX} {v : SY} (I : i_Rel k u v) (hk : k + 3 ≤ 1536) (v1 : Int32) : wpX_size (fun r => wpY_size (fun r' => r' = r ∧ i_Rel (k + 3) u v) v v1) u v1 := by
  have R : i_Rel (k + 3) u v := I
  obtain ⟨d, c, s, wx, wy, sz, dr, g, hd, rfl, rfl, h⟩ := I
  rcases fv_blk v1 with ⟨hX, hY⟩ | ⟨b, hb, rfl, hX, hY⟩
  · unfold wpX_size wpY_size
    dsimp only
    refine hX _ (br_t rfl ?_)
    exact hY _ _ (br_t rfl ⟨rfl, R⟩)
  · have hi : vp_in (nI b) 8 := vp_in_nI hb (by omega)
    unfold wpX_size wpY_size
    dsimp only
    refine hX _ (br_f (by decide) ⟨hi, ?_⟩)
    exact hY _ _ (br_f (by decide) ⟨hi, rfl, R⟩)
theorem i_vc_read {k : Nat} {u : SX} {v : SY} (I : i_Rel k u v) (hk : k + 3 ≤ 1536) (v1 : Int32) (v2 : Int32) : wpX_read (fun r => wpY_read (fun r' => r' = r ∧ i_Rel (k + 3) u v) v v1 v2) u v1 v2 := by
  have R : i_Rel (k + 3) u v := I
  obtain ⟨d, c, s, wx, wy, sz, dr, g, hd, rfl, rfl, h⟩ := I
  rcases fv_blk v1 with ⟨hX, hY⟩ | ⟨b, hb, rfl, hX, hY⟩
  · unfold wpX_read wpY_read
    dsimp only
    refine hX _ (br_t rfl ?_)
    exact hY _ _ (br_t rfl ⟨rfl, R⟩)
  · have hi : vp_in (nI b) 8 := vp_in_nI hb (by omega)
    obtain ⟨hg, hs, hw⟩ := h b hb
    have hcl : (nI b).toNatClampNeg = b := nI_clamp (by omega)
    unfold wpX_read wpY_read
    dsimp only
    by_cases h0 : v2 < 0
    · refine hX _ (br_f (by decide) (br_t h0 ?_))
      exact hY _ _ (br_f (by decide) (br_t h0 ⟨rfl, R⟩))
    · obtain ⟨j, hj, rfl⟩ := nI_of h0
      by_cases h1 : j < g b
      · have hlt : nI j < sz (nI b).toNatClampNeg := by rw [hcl, hs]; exact nI_lt h1 (by omega)
        have hle : ¬ sz (nI b).toNatClampNeg ≤ nI j := by rw [hcl, hs]; exact nI_ge h1 (by omega)
        have hi2 : vp_in (nI (b * 4 + j)) 32 := vp_in_nI (by omega) (by omega)
        have hc2 : (nI (b * 4 + j)).toNatClampNeg = b * 4 + j := nI_clamp (by omega)
        refine hX _ (br_f (by decide) (br_f h0 ⟨hi, br_t hlt ?_⟩))
        rw [fv_ix]
        refine ⟨hi2, ?_⟩
        refine hY _ _ (br_f (by decide) (br_f h0 ⟨hi, br_f hle ?_⟩))
        rw [fv_iy]
        refine ⟨hi2, ?_, R⟩
        rw [hc2]
        exact (hw j h1).symm
      · have hlt : ¬ nI j < sz (nI b).toNatClampNeg := by rw [hcl, hs]; exact nI_nlt (by omega) (by omega)
        have hle : sz (nI b).toNatClampNeg ≤ nI j := by rw [hcl, hs]; exact nI_le (by omega) (by omega)
        refine hX _ (br_f (by decide) (br_f h0 ⟨hi, br_f hlt ?_⟩))
        exact hY _ _ (br_f (by decide) (br_f h0 ⟨hi, br_t hle ⟨rfl, R⟩⟩))
theorem i_vc_cutAfter {k : Nat} {u : SX} {v : SY} (I : i_Rel k u v) (hk : k + 3 ≤ 1536) (v1 : Int32) : wpX_cutAfter (fun r u' => wpY_cutAfter (fun r' v' => r' = r ∧ i_Rel (k + 3) u' v') v v1) u v1 := by
  have R : i_Rel (k + 3) u v := I
  obtain ⟨d, c, s, wx, wy, sz, dr, g, hd, rfl, rfl, h⟩ := I
  by_cases h0 : v1 < 0
  · exact br_t h0 (br_t h0 ⟨rfl, R⟩)
  · by_cases h1 : v1 ≤ 40
    · exact br_f h0 (br_t h1 (br_f h0 (br_t h1 ⟨rfl, d, 1, v1, wx, wy, sz, dr, g, hd, rfl, rfl, h⟩)))
    · exact br_f h0 (br_f h1 (br_f h0 (br_f h1 ⟨rfl, R⟩)))
theorem i_vc_cancel {k : Nat} {u : SX} {v : SY} (I : i_Rel k u v) (hk : k + 3 ≤ 1536) : wpX_cancel (fun r u' => wpY_cancel (fun r' v' => r' = r ∧ i_Rel (k + 3) u' v') v) u := by
  obtain ⟨d, c, s, wx, wy, sz, dr, g, hd, rfl, rfl, h⟩ := I
  by_cases h0 : c = 0
  · subst h0
    exact br_t rfl (br_t rfl ⟨rfl, d, 0, s, wx, wy, sz, dr, g, hd, rfl, rfl, h⟩)
  · exact br_f h0 (br_f h0 ⟨rfl, d, 0, s, wx, wy, sz, dr, g, hd, rfl, rfl, h⟩)
theorem i_vc_restart {k : Nat} {u : SX} {v : SY} (I : i_Rel k u v) (hk : k + 3 ≤ 1536) : wpX_restart (fun u' => wpY_restart (fun v' => i_Rel (k + 3) u' v') v) u := by
  obtain ⟨d, c, s, wx, wy, sz, dr, g, hd, rfl, rfl, h⟩ := I
  exact ⟨0, 0, s, wx, wy, sz, dr, g, by omega, rfl, rfl, h⟩
theorem i_vc_drafted {k : Nat} {u : SX} {v : SY} (I : i_Rel k u v) (hk : k + 3 ≤ 1536) : wpX_drafted (fun r => wpY_drafted (fun r' => r' = r ∧ i_Rel (k + 3) u v) v) u := by
  have R : i_Rel (k + 3) u v := I
  obtain ⟨d, c, s, wx, wy, sz, dr, g, hd, rfl, rfl, h⟩ := I
  exact ⟨rfl, R⟩
theorem i_vc_rest {k : Nat} {u : SX} {v : SY} (I : i_Rel k u v) (hk : k + 3 ≤ 1536) (v1 : Int32) : wpX_rest (fun u' => wpY_rest (fun v' => i_Rel (k + 3) u' v') v v1) u v1 := by
  have R : i_Rel (k + 3) u v := I
  obtain ⟨d, c, s, wx, wy, sz, dr, g, hd, rfl, rfl, h⟩ := I
  exact R
theorem i_vc_fail {k : Nat} {u : SX} {v : SY} (I : i_Rel k u v) (hk : k + 3 ≤ 1536) : wpX_fail (fun u' => wpY_fail (fun v' => i_Rel (k + 3) u' v') v) u := by
  have R : i_Rel (k + 3) u v := I
  obtain ⟨d, c, s, wx, wy, sz, dr, g, hd, rfl, rfl, h⟩ := I
  exact R
end
section
theorem fv_append {u : SX} {v : SY} (I : i_Rel 0 u v) (p w : Int32) : ∃ (r : Int32) (u' : SX) (v' : SY), i_Rel 0 u' v' ∧ (∀ post : Int32 → SX → Prop, post r u' → wpX_append post u p w) ∧ (∀ post : Int32 → SY → Prop, post r v' → wpY_append post v p w) := by
  have R : i_Rel 0 u v := I
  obtain ⟨d, c, s, wx, wy, sz, dr, g, hd, rfl, rfl, h⟩ := I
  rcases fv_blk p with ⟨hX, hY⟩ | ⟨b, hb, rfl, hX, hY⟩
  · refine ⟨-1, _, _, R, fun post hp => ?_, fun post hp => ?_⟩
    · unfold wpX_append
      dsimp only
      exact hX _ (br_t rfl hp)
    · unfold wpY_append
      dsimp only
      exact hY _ _ (br_t rfl hp)
  · obtain ⟨hg, hs, hw⟩ := h b hb
    have hcl : (nI b).toNatClampNeg = b := nI_clamp (by omega)
    have hi : vp_in (nI b) 8 := vp_in_nI hb (by omega)
    by_cases h4 : g b = 4
    · have nX : ¬ nI (g b) < 4 := by rw [h4, fv_4]; decide
      have nY : nI (g b) = 4 := by rw [h4, fv_4]
      refine ⟨-2, _, _, R, fun post hp => ?_, fun post hp => ?_⟩
      · unfold wpX_append
        dsimp only
        refine hX _ (br_f (by decide) ⟨hi, ?_⟩)
        rw [hcl, hs]
        exact nm_e (br_f nX hp)
      · unfold wpY_append
        dsimp only
        refine hY _ _ (br_f (by decide) ⟨hi, ?_⟩)
        rw [hcl, hs]
        exact br_t nY hp
    · have h4' : g b < 4 := by omega
      have nX : nI (g b) < 4 := by rw [← fv_4]; exact nI_lt h4' (by omega)
      have nY : ¬ nI (g b) = 4 := by rw [← fv_4, nI_eq (by omega) (by omega)]; exact h4
      have hi2 : vp_in (nI (b * 4 + g b)) 32 := vp_in_nI (by omega) (by omega)
      have hc2 : (nI (b * 4 + g b)).toNatClampNeg = b * 4 + g b := nI_clamp (by omega)
      -- once the tail behind the choice of steps is walked, the heads are the same
      have headX : ∀ post : Int32 → SX → Prop, wX_append_34 post (nI b) w (nI (g b)) (if g b = 0 then 2 else 1) (nI d) c s wx sz dr → wpX_append post (nI d, c, s, wx, sz, dr) (nI b) w := by
        intro post T
        unfold wpX_append
        dsimp only
        refine hX _ (br_f (by decide) ⟨hi, ?_⟩)
        rw [hcl, hs]
        refine nm_e (br_t nX ?_)
        by_cases h0 : g b = 0
        · rw [if_pos h0] at T
          exact br_t (by rw [h0]; exact nI_0) T
        · rw [if_neg h0] at T
          exact br_f (nI_ne0 (by omega) (by omega)) T
      have headY : ∀ post : Int32 → SY → Prop, wY_append_38 post (nI b) w (if g b = 0 then 2 else 1) (nI d) c s wy sz dr → wpY_append post (nI d, c, s, wy, sz, dr) (nI b) w := by
        intro post T
        unfold wpY_append
        dsimp only
        refine hY _ _ (br_f (by decide) ⟨hi, ?_⟩)
        rw [hcl, hs]
        refine br_f nY ⟨hi, ?_⟩
        by_cases h0 : g b = 0
        · rw [if_pos h0] at T
          exact br_t (by rw [h0, nI_0]; exact Int32.le_refl 0) T
        · rw [if_neg h0] at T
          exact br_f (nI_nle (by omega) (by omega)) T
      obtain ⟨r, d', c', s', hr, pX, pY⟩ := fv_pw d c s (if g b = 0 then 2 else 1) sz dr
      rcases hr with ⟨rfl, rfl⟩ | ⟨hr, rfl⟩
      · refine ⟨nI (g b + 1), (nI d', c', s', upd wx (b * 4 + g b) w, upd sz b (nI (g b + 1)), dr), (nI d', c', s', upd wy (b * 4 + g b) w, upd sz b (nI (g b + 1)), dr), ?_, fun post hp => headX post ?_, fun post hp => headY post ?_⟩
        · refine ⟨d', c', s', _, _, _, dr, _, hd, rfl, rfl, fv_S_set h (by omega) (fun i hi => ?_) (fun a i ha hi => ?_) (fun a i ha hi => ?_)⟩
          · by_cases e : i = g b
            · subst e
              rw [pk_us, pk_us]
            · have ne : b * 4 + i ≠ b * 4 + g b := by omega
              rw [pk_un ne, pk_un ne]
              exact hw i (by omega)
          · exact pk_un (by omega)
          · exact pk_un (by omega)
        · unfold wX_append_34
          refine pX _ _ (br_t rfl ?_)
          rw [fv_ix, hc2, hcl, nI_1]
          exact ⟨hi2, nm_e ⟨hi, nm_e hp⟩⟩
        · unfold wY_append_38
          refine pY _ _ (br_t rfl ?_)
          rw [hcl, hs, fv_iy, hc2, nI_1]
          refine ⟨hi, hi2, nm_e ⟨hi, hi, nm_e ⟨hi, ?_⟩⟩⟩
          rw [pk_us]
          exact hp
      · refine ⟨-9, (nI 0, c', s', wx, sz, dr), (nI 0, c', s', wy, sz, dr), ⟨0, c', s', wx, wy, sz, dr, g, by omega, rfl, rfl, h⟩, fun post hp => headX post ?_, fun post hp => headY post ?_⟩
        · unfold wX_append_34
          exact pX _ _ (br_f hr hp)
        · unfold wY_append_38
          exact pY _ _ (br_f hr hp)
theorem fv_drop {u : SX} {v : SY} (I : i_Rel 0 u v) (p : Int32) : ∃ (r : Int32) (u' : SX) (v' : SY), i_Rel 0 u' v' ∧ (∀ post : Int32 → SX → Prop, post r u' → wpX_drop post u p) ∧ (∀ post : Int32 → SY → Prop, post r v' → wpY_drop post v p) := by
  have R : i_Rel 0 u v := I
  obtain ⟨d, c, s, wx, wy, sz, dr, g, hd, rfl, rfl, h⟩ := I
  rcases fv_blk p with ⟨hX, hY⟩ | ⟨b, hb, rfl, hX, hY⟩
  · refine ⟨-1, _, _, R, fun post hp => ?_, fun post hp => ?_⟩
    · unfold wpX_drop
      dsimp only
      exact hX _ (br_t rfl hp)
    · unfold wpY_drop
      dsimp only
      exact hY _ _ (br_t rfl hp)
  · obtain ⟨hg, hs, hw⟩ := h b hb
    have hcl : (nI b).toNatClampNeg = b := nI_clamp (by omega)
    have hi : vp_in (nI b) 8 := vp_in_nI hb (by omega)
    by_cases h0 : g b = 0
    · have n0 : nI (g b) = 0 := by rw [h0]; exact nI_0
      refine ⟨-4, _, _, R, fun post hp => ?_, fun post hp => ?_⟩
      · unfold wpX_drop
        dsimp only
        refine hX _ (br_f (by decide) ⟨hi, ?_⟩)
        rw [hcl, hs]
        exact nm_e (br_t n0 hp)
      · unfold wpY_drop
        dsimp only
        refine hY _ _ (br_f (by decide) ⟨hi, ?_⟩)
        rw [hcl, hs]
        exact br_t n0 hp
    · have n0 : ¬ nI (g b) = 0 := nI_ne0 (by omega) (by omega)
      obtain ⟨r, d', c', s', hr, pX, pY⟩ := fv_pw d c s 1 sz dr
      rcases hr with ⟨rfl, rfl⟩ | ⟨hr, rfl⟩
      · refine ⟨nI (g b), (nI d', c', s', wx, upd sz b (nI 0), dr), (nI d', c', s', wy, upd sz b (nI 0), dr), ?_, fun post hp => ?_, fun post hp => ?_⟩
        · exact ⟨d', c', s', wx, wy, _, dr, _, hd, rfl, rfl, fv_S_set h (Nat.zero_le 4) (fun i hi => absurd hi (Nat.not_lt_zero i)) (fun _ _ _ _ => rfl) (fun _ _ _ _ => rfl)⟩
        · unfold wpX_drop
          dsimp only
          refine hX _ (br_f (by decide) ⟨hi, ?_⟩)
          rw [hcl, hs]
          refine nm_e (br_f n0 ?_)
          exact pX _ _ (br_t rfl ⟨hi, nm_e hp⟩)
        · unfold wpY_drop
          dsimp only
          refine hY _ _ (br_f (by decide) ⟨hi, ?_⟩)
          rw [hcl, hs]
          refine br_f n0 ?_
          refine pY _ _ (br_t rfl ⟨hi, ?_⟩)
          dsimp only
          rw [hs]
          exact nm_e ⟨hi, nm_e hp⟩
      · refine ⟨-9, (nI 0, c', s', wx, sz, dr), (nI 0, c', s', wy, sz, dr), ⟨0, c', s', wx, wy, sz, dr, g, by omega, rfl, rfl, h⟩, fun post hp => ?_, fun post hp => ?_⟩
        · unfold wpX_drop
          dsimp only
          refine hX _ (br_f (by decide) ⟨hi, ?_⟩)
          rw [hcl, hs]
          refine nm_e (br_f n0 ?_)
          exact pX _ _ (br_f hr hp)
        · unfold wpY_drop
          dsimp only
          refine hY _ _ (br_f (by decide) ⟨hi, ?_⟩)
          rw [hcl, hs]
          refine br_f n0 ?_
          exact pY _ _ (br_f hr hp)
end
section
/-- n words of the draft, from number i on, copied into block b -/
def fv_cp (b : Nat) (dr : Nat → Int32) : Nat → Nat → (Nat → Int32) → (Nat → Int32)
  | 0, _, w => w
  | n + 1, i, w => fv_cp b dr n (i + 1) (upd w (b * 4 + i) (dr i))
theorem fv_cp_out (b : Nat) (dr : Nat → Int32) : ∀ (n i : Nat) (w : Nat → Int32) (q : Nat), (q < b * 4 + i ∨ b * 4 + i + n ≤ q) → fv_cp b dr n i w q = w q := by
  intro n
  induction n with
  | zero => intro i w q _; rfl
  | succ n ih =>
    intro i w q hq
    have ne : q ≠ b * 4 + i := by omega
    show fv_cp b dr n (i + 1) (upd w (b * 4 + i) (dr i)) q = w q
    rw [ih (i + 1) _ q (by omega), pk_un ne]
theorem fv_cp_in (b : Nat) (dr : Nat → Int32) : ∀ (n i : Nat) (w : Nat → Int32) (j : Nat), i ≤ j → j < i + n → fv_cp b dr n i w (b * 4 + j) = dr j := by
  intro n
  induction n with
  | zero => intro i w j h1 h2; exact absurd h2 (by omega)
  | succ n ih =>
    intro i w j h1 h2
    show fv_cp b dr n (i + 1) (upd w (b * 4 + i) (dr i)) (b * 4 + j) = dr j
    by_cases e : j = i
    · subst e
      rw [fv_cp_out b dr n (j + 1) _ (b * 4 + j) (by omega), pk_us]
    · exact ih (i + 1) _ j (by omega) (by omega)
theorem fv_chX {b : Nat} (hb : b < 8) (x2 d c s : Int32) (sz dr : Nat → Int32) (post : Int32 → SX → Prop) : ∀ (n i : Nat) (w : Nat → Int32), i + n = 4 → post x2 (0, c, s, fv_cp b dr n i w, upd sz b x2, dr) → wX_change_32 post (nI b) x2 d c s (n + 1) (nI i) w sz dr := by
  have hcl : (nI b).toNatClampNeg = b := nI_clamp (by omega)
  have hi : vp_in (nI b) 8 := vp_in_nI hb (by omega)
  intro n
  induction n with
  | zero =>
    intro i w hin hp
    have e : (4 : Int32) ≤ nI i := by rw [← fv_4]; exact nI_le (by omega) (by omega)
    refine br_t e ⟨hi, ?_⟩
    rw [hcl]
    exact nm_e hp
  | succ n ih =>
    intro i w hin hp
    have e : ¬ (4 : Int32) ≤ nI i := by rw [← fv_4]; exact nI_ge (by omega) (by omega)
    have hi1 : vp_in (nI i) 4 := vp_in_nI (by omega) (by omega)
    have hi2 : vp_in (nI (b * 4 + i)) 32 := vp_in_nI (by omega) (by omega)
    have hc1 : (nI i).toNatClampNeg = i := nI_clamp (by omega)
    have hc2 : (nI (b * 4 + i)).toNatClampNeg = b * 4 + i := nI_clamp (by omega)
    refine br_f e ⟨hi1, ?_⟩
    rw [fv_ix, hc1, hc2]
    refine ⟨hi2, nm_e ?_⟩
    rw [nI_1]
    exact nm_e (ih (i + 1) _ (by omega) hp)
theorem fv_chY {b m : Nat} (hb : b < 8) (hm : m ≤ 4) (c s : Int32) (sz dr : Nat → Int32) (post : Int32 → SY → Prop) : ∀ (n i : Nat) (w : Nat → Int32), i + n = m → post (nI m) (0, c, s, fv_cp b dr n i w, upd sz b (nI m), dr) → wY_change_28 post (nI b) (nI m) c s (n + 1) (nI i) w sz dr := by
  have hcl : (nI b).toNatClampNeg = b := nI_clamp (by omega)
  have hi : vp_in (nI b) 8 := vp_in_nI hb (by omega)
  intro n
  induction n with
  | zero =>
    intro i w hin hp
    have e : nI m ≤ nI i := nI_le (by omega) (by omega)
    refine br_t e ⟨hi, ?_⟩
    rw [hcl]
    refine nm_e ⟨hi, ?_⟩
    rw [pk_us]
    exact hp
  | succ n ih =>
    intro i w hin hp
    have e : ¬ nI m ≤ nI i := nI_ge (by omega) (by omega)
    have hi1 : vp_in (nI i) 4 := vp_in_nI (by omega) (by omega)
    have hi2 : vp_in (nI (b * 4 + i)) 32 := vp_in_nI (by omega) (by omega)
    have hc1 : (nI i).toNatClampNeg = i := nI_clamp (by omega)
    have hc2 : (nI (b * 4 + i)).toNatClampNeg = b * 4 + i := nI_clamp (by omega)
    refine br_f e ⟨hi1, ?_⟩
    rw [fv_iy, hc1, hc2]
    refine ⟨hi2, nm_e ?_⟩
    rw [nI_1]
    exact nm_e (ih (i + 1) _ (by omega) hp)
theorem fv_change {u : SX} {v : SY} (I : i_Rel 0 u v) (p : Int32) : ∃ (r : Int32) (u' : SX) (v' : SY), i_Rel 0 u' v' ∧ (∀ post : Int32 → SX → Prop, post r u' → wpX_change post u p) ∧ (∀ post : Int32 → SY → Prop, post r v' → wpY_change post v p) := by
  have R : i_Rel 0 u v := I
  obtain ⟨d, c, s, wx, wy, sz, dr, g, hd, rfl, rfl, h⟩ := I
  rcases fv_blk p with ⟨hX, hY⟩ | ⟨b, hb, rfl, hX, hY⟩
  · refine ⟨-1, _, _, R, fun post hp => ?_, fun post hp => ?_⟩
    · unfold wpX_change
      dsimp only
      exact hX _ (br_t rfl hp)
    · unfold wpY_change
      dsimp only
      exact hY _ _ (br_t rfl hp)
  · obtain ⟨r, d', c', s', hr, pX, pY⟩ := fv_pw d c s (nI d + 2) sz dr
    rcases hr with ⟨rfl, rfl⟩ | ⟨hr, rfl⟩
    · refine ⟨nI d', (nI 0, c', s', fv_cp b dr 4 0 wx, upd sz b (nI d'), dr), (nI 0, c', s', fv_cp b dr d' 0 wy, upd sz b (nI d'), dr), ?_, fun post hp => ?_, fun post hp => ?_⟩
      · refine ⟨0, c', s', _, _, _, dr, _, by omega, rfl, rfl, fv_S_set h hd (fun i hi => ?_) (fun a i ha hi => ?_) (fun a i ha hi => ?_)⟩
        · rw [fv_cp_in b dr 4 0 wx i (by omega) (by omega), fv_cp_in b dr d' 0 wy i (by omega) (by omega)]
        · exact fv_cp_out b dr 4 0 wx (a * 4 + i) (by omega)
        · exact fv_cp_out b dr d' 0 wy (a * 4 + i) (by omega)
      · unfold wpX_change
        dsimp only
        refine hX _ (br_f (by decide) ?_)
        refine pX _ _ (br_t rfl ?_)
        exact ⟨5, fv_chX hb (nI d') (nI d') c' s' sz dr post 4 0 wx rfl hp⟩
      · unfold wpY_change
        dsimp only
        refine hY _ _ (br_f (by decide) ?_)
        refine pY _ _ (br_t rfl ?_)
        exact ⟨d' + 1, fv_chY hb hd c' s' sz dr post d' 0 wy (by omega) hp⟩
    · refine ⟨-9, (nI 0, c', s', wx, sz, dr), (nI 0, c', s', wy, sz, dr), ⟨0, c', s', wx, wy, sz, dr, g, by omega, rfl, rfl, h⟩, fun post hp => ?_, fun post hp => ?_⟩
      · unfold wpX_change
        dsimp only
        refine hX _ (br_f (by decide) ?_)
        exact pX _ _ (br_f hr hp)
      · unfold wpY_change
        dsimp only
        refine hY _ _ (br_f (by decide) ?_)
        exact pY _ _ (br_f hr hp)
end
section
/-- n words of the blocks b and c, from number i on, changed with each other -/
def fv_sw (b c : Nat) : Nat → Nat → (Nat → Int32) → (Nat → Int32)
  | 0, _, w => w
  | n + 1, i, w => fv_sw b c n (i + 1) (upd (upd w (b * 4 + i) (w (c * 4 + i))) (c * 4 + i) (w (b * 4 + i)))
theorem fv_sw_out (b c : Nat) : ∀ (n i : Nat) (w : Nat → Int32) (q : Nat), (q < b * 4 + i ∨ b * 4 + i + n ≤ q) → (q < c * 4 + i ∨ c * 4 + i + n ≤ q) → fv_sw b c n i w q = w q := by
  intro n
  induction n with
  | zero => intro i w q _ _; rfl
  | succ n ih =>
    intro i w q hq hr
    have nb : q ≠ b * 4 + i := by omega
    have nc : q ≠ c * 4 + i := by omega
    show fv_sw b c n (i + 1) (upd (upd w (b * 4 + i) (w (c * 4 + i))) (c * 4 + i) (w (b * 4 + i))) q = w q
    rw [ih (i + 1) _ q (by omega) (by omega), pk_un nc, pk_un nb]
theorem fv_sw_in {b c : Nat} (hbc : b ≠ c) : ∀ (n i : Nat) (w : Nat → Int32) (j : Nat), i + n ≤ 4 → i ≤ j → j < i + n → fv_sw b c n i w (b * 4 + j) = w (c * 4 + j) ∧ fv_sw b c n i w (c * 4 + j) = w (b * 4 + j) := by
  intro n
  induction n with
  | zero => intro i w j h0 h1 h2; exact absurd h2 (by omega)
  | succ n ih =>
    intro i w j h0 h1 h2
    show fv_sw b c n (i + 1) (upd (upd w (b * 4 + i) (w (c * 4 + i))) (c * 4 + i) (w (b * 4 + i))) (b * 4 + j) = w (c * 4 + j) ∧ fv_sw b c n (i + 1) (upd (upd w (b * 4 + i) (w (c * 4 + i))) (c * 4 + i) (w (b * 4 + i))) (c * 4 + j) = w (b * 4 + j)
    by_cases e : j = i
    · subst e
      have ne : b * 4 + j ≠ c * 4 + j := by omega
      rw [fv_sw_out b c n (j + 1) _ (b * 4 + j) (by omega) (by omega), fv_sw_out b c n (j + 1) _ (c * 4 + j) (by omega) (by omega), pk_un ne, pk_us, pk_us]
      exact ⟨rfl, rfl⟩
    · have n1 : c * 4 + j ≠ c * 4 + i := by omega
      have n2 : c * 4 + j ≠ b * 4 + i := by omega
      have n3 : b * 4 + j ≠ c * 4 + i := by omega
      have n4 : b * 4 + j ≠ b * 4 + i := by omega
      obtain ⟨ha, hb⟩ := ih (i + 1) (upd (upd w (b * 4 + i) (w (c * 4 + i))) (c * 4 + i) (w (b * 4 + i))) j (by omega) (by omega) (by omega)
      rw [ha, hb, pk_un n1, pk_un n2, pk_un n3, pk_un n4]
      exact ⟨rfl, rfl⟩
theorem fv_S_swap {g : Nat → Nat} {sz wx wy : Nat → Int32} {b c : Nat} (h : fv_S g sz wx wy) (hb : b < 8) (hc : c < 8) (hbc : b ≠ c) :
    fv_S (fun j => if j = b then g c else if j = c then g b else g j) (upd (upd sz b (sz c)) c (sz b)) (fv_sw b c 4 0 wx) (fv_sw b c 4 0 wy) := by
  intro a ha
  dsimp only
  obtain ⟨b1, b2, b3⟩ := h b hb
  obtain ⟨c1, c2, c3⟩ := h c hc
  obtain ⟨a1, a2, a3⟩ := h a ha
  by_cases e : a = b
  · subst e
    rw [if_pos rfl, pk_un hbc, pk_us]
    refine ⟨c1, c2, fun i hi => ?_⟩
    rw [(fv_sw_in hbc 4 0 wx i (by omega) (by omega) (by omega)).1, (fv_sw_in hbc 4 0 wy i (by omega) (by omega) (by omega)).1]
    exact c3 i hi
  · rw [if_neg e]
    by_cases e2 : a = c
    · subst e2
      rw [if_pos rfl, pk_us]
      refine ⟨b1, b2, fun i hi => ?_⟩
      rw [(fv_sw_in hbc 4 0 wx i (by omega) (by omega) (by omega)).2, (fv_sw_in hbc 4 0 wy i (by omega) (by omega) (by omega)).2]
      exact b3 i hi
    · rw [if_neg e2, pk_un e2, pk_un e]
      refine ⟨a1, a2, fun i hi => ?_⟩
      rw [fv_sw_out b c 4 0 wx (a * 4 + i) (by omega) (by omega), fv_sw_out b c 4 0 wy (a * 4 + i) (by omega) (by omega)]
      exact a3 i hi
theorem fv_exX {b c : Nat} (hb : b < 8) (hc : c < 8) (d t s : Int32) (sz dr : Nat → Int32) (post : SX → Prop) : ∀ (n i : Nat) (w : Nat → Int32), i + n = 4 → post (d, t, s, fv_sw b c n i w, upd (upd sz b (sz c)) c (sz b), dr) → wX_exchange_2 post (nI b) (nI c) d t s (n + 1) (nI i) w sz dr := by
  have hclb : (nI b).toNatClampNeg = b := nI_clamp (by omega)
  have hclc : (nI c).toNatClampNeg = c := nI_clamp (by omega)
  have hib : vp_in (nI b) 8 := vp_in_nI hb (by omega)
  have hic : vp_in (nI c) 8 := vp_in_nI hc (by omega)
  intro n
  induction n with
  | zero =>
    intro i w hin hp
    have e : (4 : Int32) ≤ nI i := by rw [← fv_4]; exact nI_le (by omega) (by omega)
    refine br_t e ⟨hib, ?_⟩
    rw [hclb, hclc]
    exact nm_e ⟨hic, hib, nm_e ⟨hic, nm_e hp⟩⟩
  | succ n ih =>
    intro i w hin hp
    have e : ¬ (4 : Int32) ≤ nI i := by rw [← fv_4]; exact nI_ge (by omega) (by omega)
    have jb : vp_in (nI (b * 4 + i)) 32 := vp_in_nI (by omega) (by omega)
    have jc : vp_in (nI (c * 4 + i)) 32 := vp_in_nI (by omega) (by omega)
    have kb : (nI (b * 4 + i)).toNatClampNeg = b * 4 + i := nI_clamp (by omega)
    have kc : (nI (c * 4 + i)).toNatClampNeg = c * 4 + i := nI_clamp (by omega)
    refine br_f e ?_
    rw [fv_ix, fv_ix, kb, kc]
    refine ⟨jb, nm_e ⟨jc, jb, nm_e ⟨jc, nm_e ?_⟩⟩⟩
    rw [nI_1]
    exact nm_e (ih (i + 1) _ (by omega) hp)
theorem fv_swY {b c : Nat} (hb : b < 8) (hc : c < 8) (d t s : Int32) (sz dr : Nat → Int32) (post : Int32 → SY → Prop) : ∀ (n i : Nat) (w : Nat → Int32), i + n = 4 → post 0 (d, t, s, fv_sw b c n i w, sz, dr) → wY_swap_79 post (nI b) (nI c) d t s (n + 1) (nI i) w sz dr := by
  intro n
  induction n with
  | zero =>
    intro i w hin hp
    have e : (4 : Int32) ≤ nI i := by rw [← fv_4]; exact nI_le (by omega) (by omega)
    exact br_t e hp
  | succ n ih =>
    intro i w hin hp
    have e : ¬ (4 : Int32) ≤ nI i := by rw [← fv_4]; exact nI_ge (by omega) (by omega)
    have jb : vp_in (nI (b * 4 + i)) 32 := vp_in_nI (by omega) (by omega)
    have jc : vp_in (nI (c * 4 + i)) 32 := vp_in_nI (by omega) (by omega)
    have kb : (nI (b * 4 + i)).toNatClampNeg = b * 4 + i := nI_clamp (by omega)
    have kc : (nI (c * 4 + i)).toNatClampNeg = c * 4 + i := nI_clamp (by omega)
    refine br_f e ?_
    rw [fv_iy, fv_iy, kb, kc]
    refine ⟨jb, nm_e ⟨jc, jb, nm_e ⟨jc, nm_e ?_⟩⟩⟩
    rw [nI_1]
    exact nm_e (ih (i + 1) _ (by omega) hp)
theorem fv_swap {u : SX} {v : SY} (I : i_Rel 0 u v) (p q : Int32) : ∃ (r : Int32) (u' : SX) (v' : SY), i_Rel 0 u' v' ∧ (∀ post : Int32 → SX → Prop, post r u' → wpX_swap post u p q) ∧ (∀ post : Int32 → SY → Prop, post r v' → wpY_swap post v p q) := by
  have R : i_Rel 0 u v := I
  obtain ⟨d, t, s, wx, wy, sz, dr, g, hd, rfl, rfl, h⟩ := I
  rcases fv_blk p with ⟨hX, hY⟩ | ⟨b, hb, rfl, hX, hY⟩
  · refine ⟨-1, _, _, R, fun post hp => ?_, fun post hp => ?_⟩
    · unfold wpX_swap
      dsimp only
      exact hX _ (br_t rfl hp)
    · unfold wpY_swap
      dsimp only
      exact hY _ _ (br_t rfl hp)
  · rcases fv_blk q with ⟨kX, kY⟩ | ⟨c, hc, rfl, kX, kY⟩
    · refine ⟨-1, _, _, R, fun post hp => ?_, fun post hp => ?_⟩
      · unfold wpX_swap
        dsimp only
        refine hX _ (br_f (by decide) ?_)
        exact kX _ (br_t rfl hp)
      · unfold wpY_swap
        dsimp only
        refine hY _ _ (br_f (by decide) ?_)
        exact kY _ _ (br_t rfl hp)
    · have hclb : (nI b).toNatClampNeg = b := nI_clamp (by omega)
      have hclc : (nI c).toNatClampNeg = c := nI_clamp (by omega)
      have hib : vp_in (nI b) 8 := vp_in_nI hb (by omega)
      have hic : vp_in (nI c) 8 := vp_in_nI hc (by omega)
      by_cases hbc : b = c
      · subst hbc
        refine ⟨0, _, _, R, fun post hp => ?_, fun post hp => ?_⟩
        · unfold wpX_swap
          dsimp only
          refine hX _ (br_f (by decide) ?_)
          exact kX _ (br_f (by decide) (br_t rfl hp))
        · unfold wpY_swap
          dsimp only
          refine hY _ _ (br_f (by decide) ?_)
          exact kY _ _ (br_f (by decide) (br_t rfl hp))
      · have nbc : ¬ nI b = nI c := by rw [nI_eq (by omega) (by omega)]; exact hbc
        obtain ⟨r, d', t', s', hr, pX, pY⟩ := fv_pw d t s (sz b + sz c + 3) sz dr
        rcases hr with ⟨rfl, rfl⟩ | ⟨hr, rfl⟩
        · refine ⟨0, (nI d', t', s', fv_sw b c 4 0 wx, upd (upd sz b (sz c)) c (sz b), dr), (nI d', t', s', fv_sw b c 4 0 wy, upd (upd sz b (sz c)) c (sz b), dr), ⟨d', t', s', _, _, _, dr, _, hd, rfl, rfl, fv_S_swap h hb hc hbc⟩, fun post hp => ?_, fun post hp => ?_⟩
          · unfold wpX_swap
            dsimp only
            refine hX _ (br_f (by decide) ?_)
            refine kX _ (br_f (by decide) (br_f nbc ⟨hib, hic, ?_⟩))
            rw [hclb, hclc]
            refine pX _ _ (br_t rfl ?_)
            exact ⟨5, fv_exX hb hc (nI d') t' s' sz dr _ 4 0 wx rfl hp⟩
          · unfold wpY_swap
            dsimp only
            refine hY _ _ (br_f (by decide) ?_)
            refine kY _ _ (br_f (by decide) (br_f nbc ⟨hib, hic, ?_⟩))
            rw [hclb, hclc]
            refine pY _ _ (br_t rfl ?_)
            refine ⟨hib, nm_e ⟨hic, hib, nm_e ⟨hic, nm_e ?_⟩⟩⟩
            exact ⟨5, fv_swY hb hc (nI d') t' s' _ dr post 4 0 wy rfl hp⟩
        · refine ⟨-9, (nI 0, t', s', wx, sz, dr), (nI 0, t', s', wy, sz, dr), ⟨0, t', s', wx, wy, sz, dr, g, by omega, rfl, rfl, h⟩, fun post hp => ?_, fun post hp => ?_⟩
          · unfold wpX_swap
            dsimp only
            refine hX _ (br_f (by decide) ?_)
            refine kX _ (br_f (by decide) (br_f nbc ⟨hib, hic, ?_⟩))
            rw [hclb, hclc]
            exact pX _ _ (br_f hr hp)
          · unfold wpY_swap
            dsimp only
            refine hY _ _ (br_f (by decide) ?_)
            refine kY _ _ (br_f (by decide) (br_f nbc ⟨hib, hic, ?_⟩))
            rw [hclb, hclc]
            exact pY _ _ (br_f hr hp)
end
section
theorem fv_dg12 {g : Nat → Nat} {sz wx wy : Nat → Int32} (h : fv_S g sz wx wy) {b : Nat} (hb : b < 8) (d c s : Int32) (dr : Nat → Int32) : ∀ (m i : Nat) (sum : Int32), i + m = g b → ∃ r : Int32,
    (∀ (post : Int32 → Prop) (J : Int32 → Int32 → Prop), J r (nI (b + 1)) → wX_digest_12 post J (nI b) d c s wx sz dr (m + 1) sum (nI i)) ∧
    (∀ (post : Int32 → Prop) (J : Int32 → Int32 → Prop), J r (nI (b + 1)) → wY_digest_12 post J (nI b) d c s wy sz dr (m + 1) sum (nI i)) := by
  obtain ⟨hg, hs, hw⟩ := h b hb
  have hcl : (nI b).toNatClampNeg = b := nI_clamp (by omega)
  have hi : vp_in (nI b) 8 := vp_in_nI hb (by omega)
  intro m
  induction m with
  | zero =>
    intro i sum hm
    have e : sz (nI b).toNatClampNeg ≤ nI i := by rw [hcl, hs]; exact nI_le (by omega) (by omega)
    refine ⟨sum, fun post J hp => ⟨hi, br_t e ?_⟩, fun post J hp => ⟨hi, br_t e ?_⟩⟩
    · rw [nI_1]
      exact nm_e hp
    · rw [nI_1]
      exact nm_e hp
  | succ m ih =>
    intro i sum hm
    have e : ¬ sz (nI b).toNatClampNeg ≤ nI i := by rw [hcl, hs]; exact nI_ge (by omega) (by omega)
    have hi2 : vp_in (nI (b * 4 + i)) 32 := vp_in_nI (by omega) (by omega)
    have hc2 : (nI (b * 4 + i)).toNatClampNeg = b * 4 + i := nI_clamp (by omega)
    obtain ⟨r, hX, hY⟩ := ih (i + 1) (sum + (nI (b * 4 + i) + 1) * wx (b * 4 + i)) (by omega)
    refine ⟨r, fun post J hp => ⟨hi, br_f e ?_⟩, fun post J hp => ⟨hi, br_f e ?_⟩⟩
    · rw [fv_ix]
      refine nm_e ⟨hi2, ?_⟩
      rw [hc2]
      refine nm_e ?_
      rw [nI_1 i]
      exact nm_e (hX post J hp)
    · rw [fv_iy, hc2, ← hw i (by omega)]
      refine ⟨hi2, nm_e ?_⟩
      rw [nI_1 i]
      exact nm_e (hY post J hp)
theorem fv_dg4 {g : Nat → Nat} {sz wx wy : Nat → Int32} (h : fv_S g sz wx wy) (d c s : Int32) (dr : Nat → Int32) : ∀ (m b : Nat) (sum : Int32), b + m = 8 → ∃ r : Int32,
    (∀ post : Int32 → Prop, post r → wX_digest_4 post d c s wx sz dr (m + 1) sum (nI b)) ∧
    (∀ post : Int32 → Prop, post r → wY_digest_4 post d c s wy sz dr (m + 1) sum (nI b)) := by
  intro m
  induction m with
  | zero =>
    intro b sum hm
    have e : (8 : Int32) ≤ nI b := by rw [← fv_8]; exact nI_le (by omega) (by omega)
    exact ⟨sum, fun _ hp => br_t e hp, fun _ hp => br_t e hp⟩
  | succ m ih =>
    intro b sum hm
    have e : ¬ (8 : Int32) ≤ nI b := by rw [← fv_8]; exact nI_ge (by omega) (by omega)
    obtain ⟨r1, iX, iY⟩ := fv_dg12 h (b := b) (by omega) d c s dr (g b) 0 sum (by omega)
    obtain ⟨r, hX, hY⟩ := ih (b + 1) r1 (by omega)
    refine ⟨r, fun post hp => br_f e ⟨g b + 1, ?_⟩, fun post hp => br_f e ⟨g b + 1, ?_⟩⟩
    · exact iX post _ (hX post hp)
    · exact iY post _ (hY post hp)
theorem i_vc_digest {k : Nat} {u : SX} {v : SY} (I : i_Rel k u v) (hk : k + 3 ≤ 1536) : wpX_digest (fun r => wpY_digest (fun r' => r' = r ∧ i_Rel (k + 3) u v) v) u := by
  have R : i_Rel (k + 3) u v := I
  obtain ⟨d, c, s, wx, wy, sz, dr, g, hd, rfl, rfl, h⟩ := I
  obtain ⟨r, hX, hY⟩ := fv_dg4 h (nI d) c s dr 8 0 0 rfl
  exact ⟨9, hX _ ⟨9, hY _ ⟨rfl, R⟩⟩⟩
end
section
theorem i_vc_append {k : Nat} {u : SX} {v : SY} (I : i_Rel k u v) (hk : k + 3 ≤ 1536) (v1 : Int32) (v2 : Int32) : wpX_append (fun r u' => wpY_append (fun r' v' => r' = r ∧ i_Rel (k + 3) u' v') v v1 v2) u v1 v2 := by
  obtain ⟨r, u', v', R, hX, hY⟩ := fv_append I v1 v2
  exact hX _ (hY _ ⟨rfl, R⟩)
theorem i_vc_change {k : Nat} {u : SX} {v : SY} (I : i_Rel k u v) (hk : k + 3 ≤ 1536) (v1 : Int32) : wpX_change (fun r u' => wpY_change (fun r' v' => r' = r ∧ i_Rel (k + 3) u' v') v v1) u v1 := by
  obtain ⟨r, u', v', R, hX, hY⟩ := fv_change I v1
  exact hX _ (hY _ ⟨rfl, R⟩)
theorem i_vc_drop {k : Nat} {u : SX} {v : SY} (I : i_Rel k u v) (hk : k + 3 ≤ 1536) (v1 : Int32) : wpX_drop (fun r u' => wpY_drop (fun r' v' => r' = r ∧ i_Rel (k + 3) u' v') v v1) u v1 := by
  obtain ⟨r, u', v', R, hX, hY⟩ := fv_drop I v1
  exact hX _ (hY _ ⟨rfl, R⟩)
theorem i_vc_swap {k : Nat} {u : SX} {v : SY} (I : i_Rel k u v) (hk : k + 3 ≤ 1536) (v1 : Int32) (v2 : Int32) : wpX_swap (fun r u' => wpY_swap (fun r' v' => r' = r ∧ i_Rel (k + 3) u' v') v v1 v2) u v1 v2 := by
  obtain ⟨r, u', v', R, hX, hY⟩ := fv_swap I v1 v2
  exact hX _ (hY _ ⟨rfl, R⟩)
end
