/-- n words of the draft, from number i on, copied into block b -/
def fv_cp (b : Nat) (dr : Nat → Int32) : Nat → Nat → (Nat → Int32) → (Nat → Int32)
  | 0, _, w => w
  | n + 1, i, w => fv_cp b dr n (i + 1) (upd w (b * 4 + i) (dr i))
theorem fv_cp_out (b : Nat) (dr : Nat → Int32) : ∀ (n i : Nat) (w : Nat → Int32) (q : Nat), (q < b * 4 + i ∨ b * 4 + i + n ≤ q) → fv_cp b dr n i w q = w q := by
  intro n
  induction n with
  | zero => intro i w q _; rfl
  | succ n ih =>
    intro i w q hq
    have ne : q ≠ b * 4 + i := by omega
    show fv_cp b dr n (i + 1) (upd w (b * 4 + i) (dr i)) q = w q
    rw [ih (i + 1) _ q (by omega), pk_un ne]
theorem fv_cp_in (b : Nat) (dr : Nat → Int32) : ∀ (n i : Nat) (w : Nat → Int32) (j : Nat), i ≤ j → j < i + n → fv_cp b dr n i w (b * 4 + j) = dr j := by
  intro n
  induction n with
  | zero => intro i w j h1 h2; exact absurd h2 (by omega)
  | succ n ih =>
    intro i w j h1 h2
    show fv_cp b dr n (i + 1) (upd w (b * 4 + i) (dr i)) (b * 4 + j) = dr j
    by_cases e : j = i
    · subst e
      rw [fv_cp_out b dr n (j + 1) _ (b * 4 + j) (by omega), pk_us]
    · exact ih (i + 1) _ j (by omega) (by omega)
theorem fv_chX {b : Nat} (hb : b < 8) (x2 d c s : Int32) (sz dr : Nat → Int32) (post : Int32 → SX → Prop) : ∀ (n i : Nat) (w : Nat → Int32), i + n = 4 → post x2 (0, c, s, fv_cp b dr n i w, upd sz b x2, dr) → wX_change_32 post (nI b) x2 d c s (n + 1) (nI i) w sz dr := by
  have hcl : (nI b).toNatClampNeg = b := nI_clamp (by omega)
  have hi : vp_in (nI b) 8 := vp_in_nI hb (by omega)
  intro n
  induction n with
  | zero =>
    intro i w hin hp
    have e : (4 : Int32) ≤ nI i := by rw [← fv_4]; exact nI_le (by omega) (by omega)
    refine br_t e ⟨hi, ?_⟩
    rw [hcl]
    exact nm_e hp
  | succ n ih =>
    intro i w hin hp
    have e : ¬ (4 : Int32) ≤ nI i := by rw [← fv_4]; exact nI_ge (by omega) (by omega)
    have hi1 : vp_in (nI i) 4 := vp_in_nI (by omega) (by omega)
    have hi2 : vp_in (nI (b * 4 + i)) 32 := vp_in_nI (by omega) (by omega)
    have hc1 : (nI i).toNatClampNeg = i := nI_clamp (by omega)
    have hc2 : (nI (b * 4 + i)).toNatClampNeg = b * 4 + i := nI_clamp (by omega)
    refine br_f e ⟨hi1, ?_⟩
    rw [fv_ix, hc1, hc2]
    refine ⟨hi2, nm_e ?_⟩
    rw [nI_1]
    exact nm_e (ih (i + 1) _ (by omega) hp)
theorem fv_chY {b m : Nat} (hb : b < 8) (hm : m ≤ 4) (c s : Int32) (sz dr : Nat → Int32) (post : Int32 → SY → Prop) : ∀ (n i : Nat) (w : Nat → Int32), i + n = m → post (nI m) (0, c, s, fv_cp b dr n i w, upd sz b (nI m), dr) → wY_change_28 post (nI b) (nI m) c s (n + 1) (nI i) w sz dr := by
  have hcl : (nI b).toNatClampNeg = b := nI_clamp (by omega)
  have hi : vp_in (nI b) 8 := vp_in_nI hb (by omega)
  intro n
  induction n with
  | zero =>
    intro i w hin hp
    have e : nI m ≤ nI i := nI_le (by omega) (by omega)
    refine br_t e ⟨hi, ?_⟩
    rw [hcl]
    refine nm_e ⟨hi, ?_⟩
    rw [pk_us]
    exact hp
  | succ n ih =>
    intro i w hin hp
    have e : ¬ nI m ≤ nI i := nI_ge (by omega) (by omega)
    have hi1 : vp_in (nI i) 4 := vp_in_nI (by omega) (by omega)
    have hi2 : vp_in (nI (b * 4 + i)) 32 := vp_in_nI (by omega) (by omega)
    have hc1 : (nI i).toNatClampNeg = i := nI_clamp (by omega)
    have hc2 : (nI (b * 4 + i)).toNatClampNeg = b * 4 + i := nI_clamp (by omega)
    refine br_f e ⟨hi1, ?_⟩
    rw [fv_iy, hc1, hc2]
    refine ⟨hi2, nm_e ?_⟩
    rw [nI_1]
    exact nm_e (ih (i + 1) _ (by omega) hp)
theorem fv_change {u : SX} {v : SY} (I : i_Rel 0 u v) (p : Int32) : ∃ (r : Int32) (u' : SX) (v' : SY), i_Rel 0 u' v' ∧ (∀ post : Int32 → SX → Prop, post r u' → wpX_change post u p) ∧ (∀ post : Int32 → SY → Prop, post r v' → wpY_change post v p) := by
  have R : i_Rel 0 u v := I
  obtain ⟨d, c, s, wx, wy, sz, dr, g, hd, rfl, rfl, h⟩ := I
  rcases fv_blk p with ⟨hX, hY⟩ | ⟨b, hb, rfl, hX, hY⟩
  · refine ⟨-1, _, _, R, fun post hp => ?_, fun post hp => ?_⟩
    · unfold wpX_change
      dsimp only
      exact hX _ (br_t rfl hp)
    · unfold wpY_change
      dsimp only
      exact hY _ _ (br_t rfl hp)
  · obtain ⟨r, d', c', s', hr, pX, pY⟩ := fv_pw d c s (nI d + 2) sz dr
    rcases hr with ⟨rfl, rfl⟩ | ⟨hr, rfl⟩
    · refine ⟨nI d', (nI 0, c', s', fv_cp b dr 4 0 wx, upd sz b (nI d'), dr), (nI 0, c', s', fv_cp b dr d' 0 wy, upd sz b (nI d'), dr), ?_, fun post hp => ?_, fun post hp => ?_⟩
      · refine ⟨0, c', s', _, _, _, dr, _, by omega, rfl, rfl, fv_S_set h hd (fun i hi => ?_) (fun a i ha hi => ?_) (fun a i ha hi => ?_)⟩
        · rw [fv_cp_in b dr 4 0 wx i (by omega) (by omega), fv_cp_in b dr d' 0 wy i (by omega) (by omega)]
        · exact fv_cp_out b dr 4 0 wx (a * 4 + i) (by omega)
        · exact fv_cp_out b dr d' 0 wy (a * 4 + i) (by omega)
      · unfold wpX_change
        dsimp only
        refine hX _ (br_f (by decide) ?_)
        refine pX _ _ (br_t rfl ?_)
        exact ⟨5, fv_chX hb (nI d') (nI d') c' s' sz dr post 4 0 wx rfl hp⟩
      · unfold wpY_change
        dsimp only
        refine hY _ _ (br_f (by decide) ?_)
        refine pY _ _ (br_t rfl ?_)
        exact ⟨d' + 1, fv_chY hb hd c' s' sz dr post d' 0 wy (by omega) hp⟩
    · refine ⟨-9, (nI 0, c', s', wx, sz, dr), (nI 0, c', s', wy, sz, dr), ⟨0, c', s', wx, wy, sz, dr, g, by omega, rfl, rfl, h⟩, fun post hp => ?_, fun post hp => ?_⟩
      · unfold wpX_change
        dsimp only
        refine hX _ (br_f (by decide) ?_)
        exact pX _ _ (br_f hr hp)
      · unfold wpY_change
        dsimp only
        refine hY _ _ (br_f (by decide) ?_)
        exact pY _ _ (br_f hr hp)
