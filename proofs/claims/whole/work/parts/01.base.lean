/-! Pasted from kit/rows (PURE-ROWS): pk_us, pk_un, pk_mul, pk_ix. The rest is this claim's own. -/
theorem pk_us {f : Nat → Int32} {k : Nat} {x : Int32} : upd f k x k = x := if_pos rfl
theorem pk_un {f : Nat → Int32} {k j : Nat} {x : Int32} (h : j ≠ k) : upd f k x j = f j := if_neg h
theorem pk_mul (a b : Nat) : nI a * nI b = nI (a * b) := (Int32.ofNat_mul a b).symm
theorem pk_ix (x : Int32) {n : Nat} (hn : n < 2 ^ 31) : x < 0 ∨ nI n ≤ x ∨ ∃ j : Nat, j < n ∧ x = nI j := by
  by_cases h : x < 0
  · exact Or.inl h
  · obtain ⟨j, hj, rfl⟩ := nI_of h
    by_cases h2 : j < n
    · exact Or.inr (Or.inr ⟨j, h2, rfl⟩)
    · exact Or.inr (Or.inl (nI_le (by omega) hj))
theorem fv_4 : nI 4 = 4 := by decide +kernel
theorem fv_7 : nI 7 = 7 := by decide +kernel
theorem fv_8 : nI 8 = 8 := by decide +kernel
theorem fv_ix (b i : Nat) : nI b * 4 + nI i = nI (b * 4 + i) := by
  rw [← fv_4, pk_mul, nI_add]
theorem fv_iy (b i : Nat) : 4 * nI b + nI i = nI (b * 4 + i) := by
  rw [← fv_4, pk_mul, nI_add, Nat.mul_comm]
/-- the sizes are numbers up to four, and below a block's size the two memories hold the same words -/
def fv_S (g : Nat → Nat) (sz wx wy : Nat → Int32) : Prop :=
  ∀ b, b < 8 → g b ≤ 4 ∧ sz b = nI (g b) ∧ ∀ i, i < g b → wx (b * 4 + i) = wy (b * 4 + i)
/-- all but the words is the same on both sides; the words agree below each block's size -/
def i_Rel (_ : Nat) (u : SX) (v : SY) : Prop :=
  ∃ (d : Nat) (c s : Int32) (wx wy sz dr : Nat → Int32) (g : Nat → Nat), d ≤ 4 ∧ u = (nI d, c, s, wx, sz, dr) ∧ v = (nI d, c, s, wy, sz, dr) ∧ fv_S g sz wx wy
theorem fv_S_set {g : Nat → Nat} {sz wx wy wx' wy' : Nat → Int32} {b n : Nat} (h : fv_S g sz wx wy) (hn : n ≤ 4)
    (hin : ∀ i, i < n → wx' (b * 4 + i) = wy' (b * 4 + i))
    (hoX : ∀ a i, a ≠ b → i < 4 → wx' (a * 4 + i) = wx (a * 4 + i))
    (hoY : ∀ a i, a ≠ b → i < 4 → wy' (a * 4 + i) = wy (a * 4 + i)) :
    fv_S (fun j => if j = b then n else g j) (upd sz b (nI n)) wx' wy' := by
  intro a ha
  dsimp only
  obtain ⟨h1, h2, h3⟩ := h a ha
  by_cases e : a = b
  · subst e
    rw [if_pos rfl, pk_us]
    exact ⟨hn, rfl, hin⟩
  · rw [if_neg e, pk_un e]
    refine ⟨h1, h2, fun i hi => ?_⟩
    rw [hoX a i e (by omega), hoY a i e (by omega)]
    exact h3 i hi
theorem fv_blk (p : Int32) : ((∀ post : Int32 → Prop, post 0 → wpX_isBlock post p) ∧ (∀ (post : Int32 → Prop) (v : SY), post 0 → wpY_isBlock post v p)) ∨ ∃ b : Nat, b < 8 ∧ p = nI b ∧ (∀ post : Int32 → Prop, post 1 → wpX_isBlock post p) ∧ (∀ (post : Int32 → Prop) (v : SY), post 1 → wpY_isBlock post v p) := by
  rcases pk_ix p (n := 8) (by omega) with h | h | ⟨b, hb, rfl⟩
  · refine Or.inl ⟨fun _ hp => br_t h hp, fun _ v hp => ?_⟩
    obtain ⟨v1, v2, v3, v4, v5, v6⟩ := v
    exact br_t h hp
  · rw [fv_8] at h
    have h0 : ¬ p < 0 := Int32.not_lt.mpr (Int32.le_trans (by decide) h)
    have h7 : 7 < p := Int32.lt_of_lt_of_le (by decide) h
    refine Or.inl ⟨fun _ hp => br_f h0 (br_t h hp), fun _ v hp => ?_⟩
    obtain ⟨v1, v2, v3, v4, v5, v6⟩ := v
    exact br_f h0 (br_t h7 hp)
  · have h0 : ¬ nI b < 0 := nI_pos (by omega)
    have h8 : ¬ (8 : Int32) ≤ nI b := by rw [← fv_8]; exact nI_ge hb (by omega)
    have h7 : ¬ (7 : Int32) < nI b := by rw [← fv_7]; exact nI_nlt (by omega) (by omega)
    refine Or.inr ⟨b, hb, rfl, fun _ hp => br_f h0 (br_f h8 hp), fun _ v hp => ?_⟩
    obtain ⟨v1, v2, v3, v4, v5, v6⟩ := v
    exact br_f h0 (br_f h7 hp)
theorem fv_pw (d : Nat) (c s z : Int32) (sz dr : Nat → Int32) : ∃ (r : Int32) (d' : Nat) (c' s' : Int32), ((r = 0 ∧ d' = d) ∨ (¬ r = 0 ∧ d' = 0)) ∧ (∀ (wx : Nat → Int32) (post : Int32 → SX → Prop), post r (nI d', c', s', wx, sz, dr) → wpX_powerFailsWithin post (nI d, c, s, wx, sz, dr) z) ∧ (∀ (wy : Nat → Int32) (post : Int32 → SY → Prop), post r (nI d', c', s', wy, sz, dr) → wpY_isCut post (nI d, c, s, wy, sz, dr) z) := by
  by_cases hc : c = 0
  · exact ⟨0, d, c, s, Or.inl ⟨rfl, rfl⟩, fun _ _ hp => br_t hc hp, fun _ _ hp => br_t hc (br_t hc hp)⟩
  · by_cases hz : z ≤ s
    · exact ⟨0, d, c, s - z, Or.inl ⟨rfl, rfl⟩, fun _ _ hp => br_f hc (br_t hz (nm_e hp)), fun _ _ hp => br_f hc (br_t hz (br_f hc (nm_e hp)))⟩
    · exact ⟨1, 0, 0, s, Or.inr ⟨by decide, rfl⟩, fun _ _ hp => br_f hc (br_f hz hp), fun _ _ hp => br_f hc (br_f hz hp)⟩
