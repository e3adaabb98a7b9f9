/-- n words of the blocks b and c, from number i on, changed with each other -/
def fv_sw (b c : Nat) : Nat → Nat → (Nat → Int32) → (Nat → Int32)
  | 0, _, w => w
  | n + 1, i, w => fv_sw b c n (i + 1) (upd (upd w (b * 4 + i) (w (c * 4 + i))) (c * 4 + i) (w (b * 4 + i)))
theorem fv_sw_out (b c : Nat) : ∀ (n i : Nat) (w : Nat → Int32) (q : Nat), (q < b * 4 + i ∨ b * 4 + i + n ≤ q) → (q < c * 4 + i ∨ c * 4 + i + n ≤ q) → fv_sw b c n i w q = w q := by
  intro n
  induction n with
  | zero => intro i w q _ _; rfl
  | succ n ih =>
    intro i w q hq hr
    have nb : q ≠ b * 4 + i := by omega
    have nc : q ≠ c * 4 + i := by omega
    show fv_sw b c n (i + 1) (upd (upd w (b * 4 + i) (w (c * 4 + i))) (c * 4 + i) (w (b * 4 + i))) q = w q
    rw [ih (i + 1) _ q (by omega) (by omega), pk_un nc, pk_un nb]
theorem fv_sw_in {b c : Nat} (hbc : b ≠ c) : ∀ (n i : Nat) (w : Nat → Int32) (j : Nat), i + n ≤ 4 → i ≤ j → j < i + n → fv_sw b c n i w (b * 4 + j) = w (c * 4 + j) ∧ fv_sw b c n i w (c * 4 + j) = w (b * 4 + j) := by
  intro n
  induction n with
  | zero => intro i w j h0 h1 h2; exact absurd h2 (by omega)
  | succ n ih =>
    intro i w j h0 h1 h2
    show fv_sw b c n (i + 1) (upd (upd w (b * 4 + i) (w (c * 4 + i))) (c * 4 + i) (w (b * 4 + i))) (b * 4 + j) = w (c * 4 + j) ∧ fv_sw b c n (i + 1) (upd (upd w (b * 4 + i) (w (c * 4 + i))) (c * 4 + i) (w (b * 4 + i))) (c * 4 + j) = w (b * 4 + j)
    by_cases e : j = i
    · subst e
      have ne : b * 4 + j ≠ c * 4 + j := by omega
      rw [fv_sw_out b c n (j + 1) _ (b * 4 + j) (by omega) (by omega), fv_sw_out b c n (j + 1) _ (c * 4 + j) (by omega) (by omega), pk_un ne, pk_us, pk_us]
      exact ⟨rfl, rfl⟩
    · have n1 : c * 4 + j ≠ c * 4 + i := by omega
      have n2 : c * 4 + j ≠ b * 4 + i := by omega
      have n3 : b * 4 + j ≠ c * 4 + i := by omega
      have n4 : b * 4 + j ≠ b * 4 + i := by omega
      obtain ⟨ha, hb⟩ := ih (i + 1) (upd (upd w (b * 4 + i) (w (c * 4 + i))) (c * 4 + i) (w (b * 4 + i))) j (by omega) (by omega) (by omega)
      rw [ha, hb, pk_un n1, pk_un n2, pk_un n3, pk_un n4]
      exact ⟨rfl, rfl⟩
theorem fv_S_swap {g : Nat → Nat} {sz wx wy : Nat → Int32} {b c : Nat} (h : fv_S g sz wx wy) (hb : b < 8) (hc : c < 8) (hbc : b ≠ c) :
    fv_S (fun j => if j = b then g c else if j = c then g b else g j) (upd (upd sz b (sz c)) c (sz b)) (fv_sw b c 4 0 wx) (fv_sw b c 4 0 wy) := by
  intro a ha
  dsimp only
  obtain ⟨b1, b2, b3⟩ := h b hb
  obtain ⟨c1, c2, c3⟩ := h c hc
  obtain ⟨a1, a2, a3⟩ := h a ha
  by_cases e : a = b
  · subst e
    rw [if_pos rfl, pk_un hbc, pk_us]
    refine ⟨c1, c2, fun i hi => ?_⟩
    rw [(fv_sw_in hbc 4 0 wx i (by omega) (by omega) (by omega)).1, (fv_sw_in hbc 4 0 wy i (by omega) (by omega) (by omega)).1]
    exact c3 i hi
  · rw [if_neg e]
    by_cases e2 : a = c
    · subst e2
      rw [if_pos rfl, pk_us]
      refine ⟨b1, b2, fun i hi => ?_⟩
      rw [(fv_sw_in hbc 4 0 wx i (by omega) (by omega) (by omega)).2, (fv_sw_in hbc 4 0 wy i (by omega) (by omega) (by omega)).2]
      exact b3 i hi
    · rw [if_neg e2, pk_un e2, pk_un e]
      refine ⟨a1, a2, fun i hi => ?_⟩
      rw [fv_sw_out b c 4 0 wx (a * 4 + i) (by omega) (by omega), fv_sw_out b c 4 0 wy (a * 4 + i) (by omega) (by omega)]
      exact a3 i hi
theorem fv_exX {b c : Nat} (hb : b < 8) (hc : c < 8) (d t s : Int32) (sz dr : Nat → Int32) (post : SX → Prop) : ∀ (n i : Nat) (w : Nat → Int32), i + n = 4 → post (d, t, s, fv_sw b c n i w, upd (upd sz b (sz c)) c (sz b), dr) → wX_exchange_2 post (nI b) (nI c) d t s (n + 1) (nI i) w sz dr := by
  have hclb : (nI b).toNatClampNeg = b := nI_clamp (by omega)
  have hclc : (nI c).toNatClampNeg = c := nI_clamp (by omega)
  have hib : vp_in (nI b) 8 := vp_in_nI hb (by omega)
  have hic : vp_in (nI c) 8 := vp_in_nI hc (by omega)
  intro n
  induction n with
  | zero =>
    intro i w hin hp
    have e : (4 : Int32) ≤ nI i := by rw [← fv_4]; exact nI_le (by omega) (by omega)
    refine br_t e ⟨hib, ?_⟩
    rw [hclb, hclc]
    exact nm_e ⟨hic, hib, nm_e ⟨hic, nm_e hp⟩⟩
  | succ n ih =>
    intro i w hin hp
    have e : ¬ (4 : Int32) ≤ nI i := by rw [← fv_4]; exact nI_ge (by omega) (by omega)
    have jb : vp_in (nI (b * 4 + i)) 32 := vp_in_nI (by omega) (by omega)
    have jc : vp_in (nI (c * 4 + i)) 32 := vp_in_nI (by omega) (by omega)
    have kb : (nI (b * 4 + i)).toNatClampNeg = b * 4 + i := nI_clamp (by omega)
    have kc : (nI (c * 4 + i)).toNatClampNeg = c * 4 + i := nI_clamp (by omega)
    refine br_f e ?_
    rw [fv_ix, fv_ix, kb, kc]
    refine ⟨jb, nm_e ⟨jc, jb, nm_e ⟨jc, nm_e ?_⟩⟩⟩
    rw [nI_1]
    exact nm_e (ih (i + 1) _ (by omega) hp)
theorem fv_swY {b c : Nat} (hb : b < 8) (hc : c < 8) (d t s : Int32) (sz dr : Nat → Int32) (post : Int32 → SY → Prop) : ∀ (n i : Nat) (w : Nat → Int32), i + n = 4 → post 0 (d, t, s, fv_sw b c n i w, sz, dr) → wY_swap_79 post (nI b) (nI c) d t s (n + 1) (nI i) w sz dr := by
  intro n
  induction n with
  | zero =>
    intro i w hin hp
    have e : (4 : Int32) ≤ nI i := by rw [← fv_4]; exact nI_le (by omega) (by omega)
    exact br_t e hp
  | succ n ih =>
    intro i w hin hp
    have e : ¬ (4 : Int32) ≤ nI i := by rw [← fv_4]; exact nI_ge (by omega) (by omega)
    have jb : vp_in (nI (b * 4 + i)) 32 := vp_in_nI (by omega) (by omega)
    have jc : vp_in (nI (c * 4 + i)) 32 := vp_in_nI (by omega) (by omega)
    have kb : (nI (b * 4 + i)).toNatClampNeg = b * 4 + i := nI_clamp (by omega)
    have kc : (nI (c * 4 + i)).toNatClampNeg = c * 4 + i := nI_clamp (by omega)
    refine br_f e ?_
    rw [fv_iy, fv_iy, kb, kc]
    refine ⟨jb, nm_e ⟨jc, jb, nm_e ⟨jc, nm_e ?_⟩⟩⟩
    rw [nI_1]
    exact nm_e (ih (i + 1) _ (by omega) hp)
theorem fv_swap {u : SX} {v : SY} (I : i_Rel 0 u v) (p q : Int32) : ∃ (r : Int32) (u' : SX) (v' : SY), i_Rel 0 u' v' ∧ (∀ post : Int32 → SX → Prop, post r u' → wpX_swap post u p q) ∧ (∀ post : Int32 → SY → Prop, post r v' → wpY_swap post v p q) := by
  have R : i_Rel 0 u v := I
  obtain ⟨d, t, s, wx, wy, sz, dr, g, hd, rfl, rfl, h⟩ := I
  rcases fv_blk p with ⟨hX, hY⟩ | ⟨b, hb, rfl, hX, hY⟩
  · refine ⟨-1, _, _, R, fun post hp => ?_, fun post hp => ?_⟩
    · unfold wpX_swap
      dsimp only
      exact hX _ (br_t rfl hp)
    · unfold wpY_swap
      dsimp only
      exact hY _ _ (br_t rfl hp)
  · rcases fv_blk q with ⟨kX, kY⟩ | ⟨c, hc, rfl, kX, kY⟩
    · refine ⟨-1, _, _, R, fun post hp => ?_, fun post hp => ?_⟩
      · unfold wpX_swap
        dsimp only
        refine hX _ (br_f (by decide) ?_)
        exact kX _ (br_t rfl hp)
      · unfold wpY_swap
        dsimp only
        refine hY _ _ (br_f (by decide) ?_)
        exact kY _ _ (br_t rfl hp)
    · have hclb : (nI b).toNatClampNeg = b := nI_clamp (by omega)
      have hclc : (nI c).toNatClampNeg = c := nI_clamp (by omega)
      have hib : vp_in (nI b) 8 := vp_in_nI hb (by omega)
      have hic : vp_in (nI c) 8 := vp_in_nI hc (by omega)
      by_cases hbc : b = c
      · subst hbc
        refine ⟨0, _, _, R, fun post hp => ?_, fun post hp => ?_⟩
        · unfold wpX_swap
          dsimp only
          refine hX _ (br_f (by decide) ?_)
          exact kX _ (br_f (by decide) (br_t rfl hp))
        · unfold wpY_swap
          dsimp only
          refine hY _ _ (br_f (by decide) ?_)
          exact kY _ _ (br_f (by decide) (br_t rfl hp))
      · have nbc : ¬ nI b = nI c := by rw [nI_eq (by omega) (by omega)]; exact hbc
        obtain ⟨r, d', t', s', hr, pX, pY⟩ := fv_pw d t s (sz b + sz c + 3) sz dr
        rcases hr with ⟨rfl, rfl⟩ | ⟨hr, rfl⟩
        · refine ⟨0, (nI d', t', s', fv_sw b c 4 0 wx, upd (upd sz b (sz c)) c (sz b), dr), (nI d', t', s', fv_sw b c 4 0 wy, upd (upd sz b (sz c)) c (sz b), dr), ⟨d', t', s', _, _, _, dr, _, hd, rfl, rfl, fv_S_swap h hb hc hbc⟩, fun post hp => ?_, fun post hp => ?_⟩
          · unfold wpX_swap
            dsimp only
            refine hX _ (br_f (by decide) ?_)
            refine kX _ (br_f (by decide) (br_f nbc ⟨hib, hic, ?_⟩))
            rw [hclb, hclc]
            refine pX _ _ (br_t rfl ?_)
            exact ⟨5, fv_exX hb hc (nI d') t' s' sz dr _ 4 0 wx rfl hp⟩
          · unfold wpY_swap
            dsimp only
            refine hY _ _ (br_f (by decide) ?_)
            refine kY _ _ (br_f (by decide) (br_f nbc ⟨hib, hic, ?_⟩))
            rw [hclb, hclc]
            refine pY _ _ (br_t rfl ?_)
            refine ⟨hib, nm_e ⟨hic, hib, nm_e ⟨hic, nm_e ?_⟩⟩⟩
            exact ⟨5, fv_swY hb hc (nI d') t' s' _ dr post 4 0 wy rfl hp⟩
        · refine ⟨-9, (nI 0, t', s', wx, sz, dr), (nI 0, t', s', wy, sz, dr), ⟨0, t', s', wx, wy, sz, dr, g, by omega, rfl, rfl, h⟩, fun post hp => ?_, fun post hp => ?_⟩
          · unfold wpX_swap
            dsimp only
            refine hX _ (br_f (by decide) ?_)
            refine kX _ (br_f (by decide) (br_f nbc ⟨hib, hic, ?_⟩))
            rw [hclb, hclc]
            exact pX _ _ (br_f hr hp)
          · unfold wpY_swap
            dsimp only
            refine hY _ _ (br_f (by decide) ?_)
            refine kY _ _ (br_f (by decide) (br_f nbc ⟨hib, hic, ?_⟩))
            rw [hclb, hclc]
            exact pY _ _ (br_f hr hp)
