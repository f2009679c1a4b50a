/-! ranges of arguments, and the methods without loops -/
section
variable {nq ni sq si : Int32} {p w L M : Nat → Int32}
theorem bj_rg (x : Int32) (n : Nat) (hn : n < 2147483648) (h0 : 0 < n) : x < 0 ∨ (¬ x < 0 ∧ nI n ≤ x ∧ nI (n - 1) < x) ∨ ∃ j : Nat, j < n ∧ x = nI j := by
  rcases pk_ix x hn with h | h | h
  · exact Or.inl h
  · exact Or.inr (Or.inl ⟨Int32.not_lt.mpr (Int32.le_trans (nI_pos' hn) h), h, Int32.lt_of_lt_of_le (nI_lt (by omega) hn) h⟩)
  · exact Or.inr (Or.inr h)
theorem bj_px (x y : Int32) : (∃ a b : Nat, a < 16 ∧ b < 16 ∧ x = nI a ∧ y = nI b) ∨ ((∀ post : Int32 → Prop, post 0 → wpX_isPixel post x y) ∧ (∀ (nq ni sq si : Int32) (p M : Nat → Int32) (post : Int32 → Prop), post 0 → wpY_isPixel post (nq, ni, sq, si, p, M) x y)) := by
  rcases bj_rg x 16 (by decide) (by decide) with h | ⟨h0, h1, h2⟩ | ⟨a, ha, rfl⟩
  · exact Or.inr ⟨fun post k => br_t h k, fun _ _ _ _ _ _ post k => br_t h k⟩
  · exact Or.inr ⟨fun post k => br_f h0 (br_t h1 k), fun _ _ _ _ _ _ post k => br_f h0 (br_t h2 k)⟩
  · have a0 : ¬ nI a < 0 := nI_pos (by omega)
    have a1 : ¬ (16 : Int32) ≤ nI a := nI_ge (b := 16) ha (by decide)
    have a2 : ¬ (15 : Int32) < nI a := nI_nlt (a := 15) (by omega) (by decide)
    rcases bj_rg y 16 (by decide) (by decide) with h | ⟨h0, h1, h2⟩ | ⟨b, hb, rfl⟩
    · exact Or.inr ⟨fun post k => br_f a0 (br_f a1 (br_t h k)), fun _ _ _ _ _ _ post k => br_f a0 (br_f a2 (br_t h k))⟩
    · exact Or.inr ⟨fun post k => br_f a0 (br_f a1 (br_f h0 (br_t h1 k))), fun _ _ _ _ _ _ post k => br_f a0 (br_f a2 (br_f h0 (br_t h2 k)))⟩
    · exact Or.inl ⟨a, b, ha, hb, rfl, rfl⟩
theorem bx_px {a b : Nat} (ha : a < 16) (hb : b < 16) {post : Int32 → Prop} (k : post 1) : wpX_isPixel post (nI a) (nI b) :=
  br_f (nI_pos (by omega)) (br_f (nI_ge (b := 16) ha (by decide)) (br_f (nI_pos (by omega)) (br_f (nI_ge (b := 16) hb (by decide)) k)))
theorem by_px {a b : Nat} (ha : a < 16) (hb : b < 16) {post : Int32 → Prop} (k : post 1) : wpY_isPixel post (nq, ni, sq, si, p, M) (nI a) (nI b) :=
  br_f (nI_pos (by omega)) (br_f (nI_nlt (a := 15) (by omega) (by decide)) (br_f (nI_pos (by omega)) (br_f (nI_nlt (a := 15) (by omega) (by decide)) k)))
theorem bj_gy (x : Int32) : (∀ post : Int32 → Prop, post 1 → wpX_isGrey post x) ∧ (∀ (nq ni sq si : Int32) (p M : Nat → Int32) (post : Int32 → Prop), post 1 → wpY_isGrey post (nq, ni, sq, si, p, M) x) ∨ ((∀ post : Int32 → Prop, post 0 → wpX_isGrey post x) ∧ (∀ (nq ni sq si : Int32) (p M : Nat → Int32) (post : Int32 → Prop), post 0 → wpY_isGrey post (nq, ni, sq, si, p, M) x)) := by
  by_cases h : x < 0
  · exact Or.inr ⟨fun post k => br_t h k, fun _ _ _ _ _ _ post k => br_t h k⟩
  · by_cases h2 : 255 < x
    · exact Or.inr ⟨fun post k => br_f h (br_t h2 k), fun _ _ _ _ _ _ post k => br_f h (br_t h2 k)⟩
    · exact Or.inl ⟨fun post k => br_f h (br_f h2 k), fun _ _ _ _ _ _ post k => br_f h (br_f h2 k)⟩
theorem bj_1 : ¬ (1 : Int32) = 0 := by decide
theorem bx_bk {b : Nat} (hb : b < 4) {post : Int32 → Prop} (k : post 1) : wpX_isBlock post (nI b) :=
  br_f (nI_pos (by omega)) (br_f (nI_ge (b := 4) hb (by decide)) k)
theorem bj_bl (x : Int32) : (∃ b : Nat, b < 4 ∧ x = nI b) ∨ ((∀ post : Int32 → Prop, post 0 → wpX_isBlock post x) ∧ ((x < 0) ∨ (¬ x < 0 ∧ 3 < x))) := by
  rcases bj_rg x 4 (by decide) (by decide) with h | ⟨h0, h1, h2⟩ | ⟨b, hb, rfl⟩
  · exact Or.inr ⟨fun post k => br_t h k, Or.inl h⟩
  · exact Or.inr ⟨fun post k => br_f h0 (br_t h1 k), Or.inr ⟨h0, h2⟩⟩
  · exact Or.inl ⟨b, hb, rfl⟩
theorem bx_ng {g : Int32} {post : Int32 → Prop} (k : post (bj_cl g)) : wpX_nearestGrey post g := by
  unfold bj_cl at k
  by_cases h1 : g < 0
  · rw [if_pos h1] at k
    exact br_f (Int32.not_le.mpr h1) k
  · rw [if_neg h1] at k
    by_cases h2 : 255 < g
    · rw [if_pos h2] at k
      exact br_t (Int32.not_lt.mp h1) (br_f (Int32.not_le.mpr h2) k)
    · rw [if_neg h2] at k
      exact br_t (Int32.not_lt.mp h1) (br_t (Int32.not_lt.mp h2) k)
theorem by_ng {g : Int32} {post : Int32 → Prop} (k : post (bj_cl g)) : wpY_clipped post (nq, ni, sq, si, p, M) g := by
  unfold bj_cl at k
  by_cases h1 : g < 0
  · rw [if_pos h1] at k
    exact br_f (Int32.not_le.mpr h1) k
  · rw [if_neg h1] at k
    by_cases h2 : 255 < g
    · rw [if_pos h2] at k
      exact br_t (Int32.not_lt.mp h1) (br_f (Int32.not_le.mpr h2) k)
    · rw [if_neg h2] at k
      exact br_t (Int32.not_lt.mp h1) (br_t (Int32.not_lt.mp h2) k)
/-! the waves -/
theorem bj_ch {post : Int32 → Prop} {t : Nat} (c : Nat) {li x y : Int32} {B : Prop} (hl : li = nI c) (ht : t < 2147483648) (hc : c < 2147483648) (k : post (if t = c then x else y)) (f : post y → B) : (nI t = li → post x) ∧ (¬ nI t = li → B) := by
  subst hl
  rw [nI_eq ht hc]
  exact ⟨fun h => (by rw [if_pos h] at k; exact k), fun h => f (by rw [if_neg h] at k; exact k)⟩
theorem by_wv {t : Nat} (ht : t ≤ 8) {post : Int32 → Prop} (k : post (bj_c t)) : wpY_wave post (nq, ni, sq, si, p, M) (nI t) := by
  have hb : t < 2147483648 := by omega
  exact bj_ch 0 rfl hb (by decide) k fun k => bj_ch 1 rfl hb (by decide) k fun k => bj_ch 2 rfl hb (by decide) k fun k => bj_ch 3 rfl hb (by decide) k fun k => bj_ch 4 rfl hb (by decide) k fun k => bj_ch 5 rfl hb (by decide) k fun k => bj_ch 6 rfl hb (by decide) k fun k => bj_ch 7 rfl hb (by decide) k fun k => k
theorem bx_wv {t : Nat} (ht : t ≤ 8) {post : Int32 → Prop} (k : post (bj_c t)) : wpX_quarterWave post (nI t) := by
  have hb : t < 2147483648 := by omega
  refine br_f (nI_pos hb) (pk_lt 7 t (fun h => ?_) (fun _ => ?_))
  · obtain rfl : t = 8 := by omega
    exact k
  · exact bj_ch 0 rfl hb (by decide) k fun k => bj_ch 1 rfl hb (by decide) k fun k => bj_ch 2 rfl hb (by decide) k fun k => bj_ch 3 rfl hb (by decide) k fun k => bj_ch 4 rfl hb (by decide) k fun k => bj_ch 5 rfl hb (by decide) k fun k => bj_ch 6 rfl hb (by decide) k fun k => bj_ch 7 rfl hb (by decide) k fun _ => trivial
theorem bj_Cw {Wv : (Int32 → Prop) → Int32 → Prop} (hW : ∀ (post : Int32 → Prop) (t : Nat), t ≤ 8 → post (bj_c t) → Wv post (nI t)) {post : Int32 → Prop} {t : Nat} (ht : t < 32) (k : post (bj_C t)) :
    (8 < nI t → ((16 < nI t → ((24 < nI t → Wv (fun r => post r) (32 - nI t)) ∧ (¬ 24 < nI t → Wv (fun r => post (-r)) (nI t - 16)))) ∧ (¬ 16 < nI t → Wv (fun r => post (-r)) (16 - nI t)))) ∧ (¬ 8 < nI t → Wv (fun r => post r) (nI t)) := by
  unfold bj_C at k
  refine pk_lt 8 t (fun h8 => pk_lt 16 t (fun h16 => pk_lt 24 t (fun h24 => ?_) (fun h24 => ?_)) (fun h16 => ?_)) (fun h8 => ?_)
  · rw [if_neg (by omega), if_neg (by omega), if_neg (by omega)] at k
    rw [show (32 : Int32) - nI t = nI (32 - t) from pk_sub (a := 32) (by omega)]
    exact hW _ _ (by omega) k
  · rw [if_neg (by omega), if_neg (by omega), if_pos (by omega)] at k
    rw [show nI t - (16 : Int32) = nI (t - 16) from pk_sub (b := 16) (by omega)]
    exact hW _ _ (by omega) k
  · rw [if_neg (by omega), if_pos (by omega)] at k
    rw [show (16 : Int32) - nI t = nI (16 - t) from pk_sub (a := 16) (by omega)]
    exact hW _ _ (by omega) k
  · rw [if_pos (by omega)] at k
    exact hW _ _ (by omega) k
theorem bx_wa {t : Nat} (ht : t < 32) {post : Int32 → Prop} (k : post (bj_C t)) : wpX_waveAt post (nI t) :=
  bj_Cw (Wv := wpX_quarterWave) (fun _ _ h k => bx_wv h k) ht k
theorem by_k {u i : Nat} (hu : u < 8) (hi : i < 8) {post : Int32 → Prop} (k : post (bj_K u i)) : wpY_k post (nq, ni, sq, si, p, M) (nI u) (nI i) :=
  ⟨by decide, nm_r (bj_t_eq hu hi) (bj_Cw (Wv := fun post x => wpY_wave post (nq, ni, sq, si, p, M) x) (fun _ _ h k => by_wv h k) (Nat.mod_lt _ (by decide)) k)⟩
theorem bx_st {q u v : Nat} {post : Int32 → Prop} (k : post (nI (bj_D q u v))) : wpX_stepAt post (nq, ni, nI q, si, p, w, L) (nI u) (nI v) := by
  rw [← bj_D_eq] at k
  exact k
theorem by_st {q u v : Nat} {post : Int32 → Prop} (k : post (nI (bj_D q u v))) : wpY_step post (nq, ni, sq, si, p, M) (nI q) (nI u) (nI v) := by
  rw [← bj_D_eq] at k
  exact k
theorem bx_sf {u : Nat} (hu : u < 8) {post : Int32 → Prop} (k : post (bj_e u)) : wpX_shareOf post (nI u) :=
  bj_ch 0 rfl (by omega) (by decide) k fun k => k
theorem bx_rl {s d : Int32} (h : ¬ 2 * d = 0) {post : Int32 → Prop} (k : post (bj_rd s d)) : wpX_roundedLevel post s d := by
  unfold bj_rd bj_ab at k
  by_cases h1 : s < 0
  · rw [if_pos h1, if_pos h1] at k
    exact br_f (Int32.not_le.mpr h1) ⟨h, nm_e (br_f (Int32.not_le.mpr h1) k)⟩
  · rw [if_neg h1, if_neg h1] at k
    exact br_t (Int32.not_lt.mp h1) ⟨h, nm_e (br_t (Int32.not_lt.mp h1) k)⟩
theorem by_rl {s d : Int32} (h : ¬ 2 * d = 0) {post : Int32 → Prop} (k : post (bj_rd s d)) : (0 ≤ s → wY_levelOf_125 post s d s nq ni sq si p M) ∧ (¬ 0 ≤ s → wY_levelOf_125 post s d (-s) nq ni sq si p M) := by
  unfold bj_rd bj_ab at k
  by_cases h1 : s < 0
  · rw [if_pos h1, if_pos h1] at k
    exact br_f (Int32.not_le.mpr h1) ⟨h, nm_e (br_f (Int32.not_le.mpr h1) k)⟩
  · rw [if_neg h1, if_neg h1] at k
    exact br_t (Int32.not_lt.mp h1) ⟨h, nm_e (br_t (Int32.not_lt.mp h1) k)⟩
end
