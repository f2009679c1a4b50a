/-! what is owed -/
def bj_Q (q r s t : Nat) : Prop := 1 ≤ q ∧ q ≤ 8 ∧ 1 ≤ r ∧ r ≤ 4 ∧ 1 ≤ s ∧ s ≤ 8 ∧ 1 ≤ t ∧ t ≤ 4
def i_Rel (k : Nat) (u : SX) (v : SY) : Prop := ∃ (q r s t : Nat) (p w L M : Nat → Int32), u = (nI q, nI r, nI s, nI t, p, w, L) ∧ v = (nI q, nI r, nI s, nI t, p, M) ∧ bj_Q q r s t ∧ bj_Ww w ∧ bj_Lr L M ∧ bj_Mb M
theorem i_up {k : Nat} {u : SX} {v : SY} (h : i_Rel k u v) : i_Rel (k + 4) u v := h
theorem bj_mk {k q r s t : Nat} {p w L M : Nat → Int32} (hQ : bj_Q q r s t) (hw : bj_Ww w) (hL : bj_Lr L M) (hM : bj_Mb M) : i_Rel k (nI q, nI r, nI s, nI t, p, w, L) (nI q, nI r, nI s, nI t, p, M) :=
  ⟨q, r, s, t, p, w, L, M, rfl, rfl, hQ, hw, hL, hM⟩
theorem bj_kt_w : bj_Ww (bj_P bj_kt (fun _ => 0) 64) := by
  intro u i hu hi
  rw [bj_P_lt (by omega)]
  exact (bj_kt_at hi).symm
theorem bj_0b : bj_Mb (fun _ => 0) := by
  intro n
  show (0 : Int32).toInt.natAbs ≤ 65536
  decide
theorem i_vc0 : wpX_init (fun u => wpY_init (fun v => i_Rel 0 u v)) := by
  have hR : i_Rel 0 ((1 : Int32), (4 : Int32), (1 : Int32), (4 : Int32), bj_P (fun _ => 128) (fun _ => 0) 256, bj_P bj_kt (fun _ => 0) 64, fun _ => 0) ((1 : Int32), (4 : Int32), (1 : Int32), (4 : Int32), bj_P (fun _ => 128) (fun _ => 0) 256, fun _ => 0) :=
    ⟨1, 4, 1, 4, _, _, _, _, rfl, rfl, by unfold bj_Q; decide, bj_kt_w, fun _ _ _ _ _ _ => rfl, bj_0b⟩
  have hY : wpY_init (fun v => i_Rel 0 ((1 : Int32), (4 : Int32), (1 : Int32), (4 : Int32), bj_P (fun _ => 128) (fun _ => 0) 256, bj_P bj_kt (fun _ => 0) 64, fun _ => 0) v) := by
    have h := by_init (post := fun v => i_Rel 0 ((1 : Int32), (4 : Int32), (1 : Int32), (4 : Int32), bj_P (fun _ => 128) (fun _ => 0) 256, bj_P bj_kt (fun _ => 0) 64, fun _ => 0) v) (nq := 0) (ni := 0) (sq := 0) (si := 0) (p := fun _ => 0) (M := fun _ => 0) hR 256 0 rfl
    rw [bj_P_0] at h
    exact ⟨256 + 1, h⟩
  have h := bx_init_out (post := fun u => wpY_init (fun v => i_Rel 0 u v)) (nq := 1) (ni := 4) (sq := 1) (si := 4) (p := fun _ => 0) (w := fun _ => 0) (L := fun _ => 0) hY 256 0 rfl
  rw [bj_P_0] at h
  exact ⟨256 + 1, h⟩
theorem i_vc_put {k : Nat} {u : SX} {v : SY} (I : i_Rel k u v) (hk : k + 4 ≤ 2048) (v1 : Int32) (v2 : Int32) (v3 : Int32) : wpX_put (fun r u' => wpY_put (fun r' v' => r' = r ∧ i_Rel (k + 4) u' v') v v1 v2 v3) u v1 v2 v3 := by
  obtain ⟨q, r, s, t, p, w, L, M, rfl, rfl, hQ, hw, hL, hM⟩ := I
  have hR : ∀ p : Nat → Int32, i_Rel (k + 4) (nI q, nI r, nI s, nI t, p, w, L) (nI q, nI r, nI s, nI t, p, M) := fun p => bj_mk hQ hw hL hM
  unfold wpX_put wpY_put
  dsimp only
  rcases bj_px v1 v2 with ⟨a, b, ha, hb, rfl, rfl⟩ | ⟨bX, bY⟩
  · rcases bj_gy v3 with ⟨gX, gY⟩ | ⟨gX, gY⟩
    · refine bx_px ha hb (br_f bj_1 (gX _ (br_f bj_1 ⟨pk_in (16 * b + a) 256 (by omega) (bj_ix1 b a), nm_e ⟨pk_in (16 * b + a) 256 (by omega) (bj_ix1 b a), nm_e ?_⟩⟩)))
      exact by_px ha hb (br_f bj_1 (gY _ _ _ _ _ _ _ (br_f bj_1 ⟨pk_in (16 * b + a) 256 (by omega) (bj_ix1 b a), nm_e ⟨pk_in (16 * b + a) 256 (by omega) (bj_ix1 b a), nm_e ⟨rfl, hR _⟩⟩⟩)))
    · refine bx_px ha hb (br_f bj_1 (gX _ (br_t rfl ?_)))
      exact by_px ha hb (br_f bj_1 (gY _ _ _ _ _ _ _ (br_t rfl ⟨rfl, hR _⟩)))
  · refine bX _ (br_t rfl ?_)
    exact bY _ _ _ _ _ _ _ (br_t rfl ⟨rfl, hR _⟩)
theorem i_vc_fill {k : Nat} {u : SX} {v : SY} (I : i_Rel k u v) (hk : k + 4 ≤ 2048) (v1 : Int32) (v2 : Int32) (v3 : Int32) : wpX_fill (fun r u' => wpY_fill (fun r' v' => r' = r ∧ i_Rel (k + 4) u' v') v v1 v2 v3) u v1 v2 v3 := by
  obtain ⟨q, r, s, t, p, w, L, M, rfl, rfl, hQ, hw, hL, hM⟩ := I
  have hR : ∀ p : Nat → Int32, i_Rel (k + 4) (nI q, nI r, nI s, nI t, p, w, L) (nI q, nI r, nI s, nI t, p, M) := fun p => bj_mk hQ hw hL hM
  unfold wpX_fill wpY_fill
  dsimp only
  rcases bj_px v1 v2 with ⟨a, b, ha, hb, rfl, rfl⟩ | ⟨bX, bY⟩
  · rcases bj_gy v3 with ⟨gX, gY⟩ | ⟨gX, gY⟩
    · refine bx_px ha hb (br_f bj_1 (gX _ (br_f bj_1 ⟨16 - b + 1, ?_⟩)))
      rw [show wX_fill_21 _ _ _ _ _ _ _ _ _ p w L = wX_fill_21 _ _ _ _ _ _ _ _ _ (bj_P (bj_fl p a b v3) p (16 * b)) w L from by rw [← bj_fl_top]]
      refine bx_fill_out ha ?_ (16 - b) b (by omega) (Nat.le_refl b)
      refine by_px ha hb (br_f bj_1 (gY _ _ _ _ _ _ _ (br_f bj_1 ⟨16 - b + 1, ?_⟩)))
      rw [show wY_fill_23 _ _ _ _ _ _ _ _ _ p M = wY_fill_23 _ _ _ _ _ _ _ _ _ (bj_P (bj_fl p a b v3) p (16 * b)) M from by rw [← bj_fl_top]]
      exact by_fill_out ha ⟨rfl, hR _⟩ (16 - b) b (by omega) (Nat.le_refl b)
    · refine bx_px ha hb (br_f bj_1 (gX _ (br_t rfl ?_)))
      exact by_px ha hb (br_f bj_1 (gY _ _ _ _ _ _ _ (br_t rfl ⟨rfl, hR _⟩)))
  · refine bX _ (br_t rfl ?_)
    exact bY _ _ _ _ _ _ _ (br_t rfl ⟨rfl, hR _⟩)
theorem i_vc_ramp {k : Nat} {u : SX} {v : SY} (I : i_Rel k u v) (hk : k + 4 ≤ 2048) (v1 : Int32) (v2 : Int32) (v3 : Int32) : wpX_ramp (fun r u' => wpY_ramp (fun r' v' => r' = r ∧ i_Rel (k + 4) u' v') v v1 v2 v3) u v1 v2 v3 := by
  obtain ⟨q, r, s, t, p, w, L, M, rfl, rfl, hQ, hw, hL, hM⟩ := I
  have hR : ∀ p : Nat → Int32, i_Rel (k + 4) (nI q, nI r, nI s, nI t, p, w, L) (nI q, nI r, nI s, nI t, p, M) := fun p => bj_mk hQ hw hL hM
  unfold wpX_ramp wpY_ramp
  dsimp only
  rcases bj_gy v1 with ⟨gX, gY⟩ | ⟨gX, gY⟩
  · by_cases a1 : v2 < (-64)
    · exact gX _ (br_f bj_1 (br_t a1 (br_t rfl (gY _ _ _ _ _ _ _ (br_f bj_1 (br_t a1 ⟨rfl, hR _⟩))))))
    · by_cases a2 : 64 < v2
      · exact gX _ (br_f bj_1 (br_f a1 (br_t a2 (br_t rfl (gY _ _ _ _ _ _ _ (br_f bj_1 (br_f a1 (br_t a2 ⟨rfl, hR _⟩))))))))
      · by_cases b1 : v3 < (-64)
        · exact gX _ (br_f bj_1 (br_f a1 (br_f a2 (br_f bj_1 (br_t b1 (br_t rfl (gY _ _ _ _ _ _ _ (br_f bj_1 (br_f a1 (br_f a2 (br_t b1 ⟨rfl, hR _⟩)))))))))))
        · by_cases b2 : 64 < v3
          · exact gX _ (br_f bj_1 (br_f a1 (br_f a2 (br_f bj_1 (br_f b1 (br_t b2 (br_t rfl (gY _ _ _ _ _ _ _ (br_f bj_1 (br_f a1 (br_f a2 (br_f b1 (br_f (Int32.not_le.mpr b2) ⟨rfl, hR _⟩)))))))))))))
          · refine gX _ (br_f bj_1 (br_f a1 (br_f a2 (br_f bj_1 (br_f b1 (br_f b2 (br_f bj_1 ⟨16 + 1, ?_⟩)))))))
            have hY : ∀ post : Int32 → SY → Prop, post 0 (nI q, nI r, nI s, nI t, bj_P (bj_rp v1 v2 v3) p 256, M) → wY_ramp_38 post v1 v2 v3 (nI q) (nI r) (nI s) (nI t) (256 + 1) 0 p M := by
              intro post h
              have h2 := by_ramp h 256 0 rfl
              rw [bj_P_0] at h2
              exact h2
            have hX : ∀ post : Int32 → SX → Prop, post 0 (nI q, nI r, nI s, nI t, bj_P (bj_rp v1 v2 v3) p 256, w, L) → wX_ramp_27 post v1 v2 v3 (nI q) (nI r) (nI s) (nI t) (16 + 1) 0 p w L := by
              intro post h
              have h2 := bx_ramp_out h 16 0 rfl
              rw [Nat.mul_zero, bj_P_0] at h2
              exact h2
            exact hX _ (gY _ _ _ _ _ _ _ (br_f bj_1 (br_f a1 (br_f a2 (br_f b1 (br_t (Int32.not_lt.mp b2) ⟨256 + 1, hY _ ⟨rfl, hR _⟩⟩))))))
  · refine gX _ (br_t rfl ?_)
    exact gY _ _ _ _ _ _ _ (br_t rfl ⟨rfl, hR _⟩)
theorem i_vc_weave {k : Nat} {u : SX} {v : SY} (I : i_Rel k u v) (hk : k + 4 ≤ 2048) (v1 : Int32) : wpX_weave (fun r u' => wpY_weave (fun r' v' => r' = r ∧ i_Rel (k + 4) u' v') v v1) u v1 := by
  obtain ⟨q, r, s, t, p, w, L, M, rfl, rfl, hQ, hw, hL, hM⟩ := I
  have hR : ∀ p : Nat → Int32, i_Rel (k + 4) (nI q, nI r, nI s, nI t, p, w, L) (nI q, nI r, nI s, nI t, p, M) := fun p => bj_mk hQ hw hL hM
  rcases bj_rg v1 4 (by decide) (by decide) with h | ⟨h0, h1, h2⟩ | ⟨c, hc, rfl⟩
  · exact br_t h (br_t h ⟨rfl, hR _⟩)
  · exact br_f h0 (br_f (Int32.not_le.mpr h2) (br_f h0 (br_f (Int32.not_le.mpr h2) ⟨rfl, hR _⟩)))
  · have hY : ∀ post : Int32 → SY → Prop, post 0 (nI q, nI r, nI s, nI t, bj_P (bj_wv p c) p 256, M) → wY_weave_14 post (nI c) (nI q) (nI r) (nI s) (nI t) (256 + 1) 0 p M := by
      intro post h
      have h2 := by_weave hc h 256 0 rfl
      rw [bj_P_0] at h2
      exact h2
    have hX : ∀ post : Int32 → SX → Prop, post 0 (nI q, nI r, nI s, nI t, bj_P (bj_wv p c) p 256, w, L) → wX_weave_14 post (nI c) (nI q) (nI r) (nI s) (nI t) (16 + 1) 0 p w L := by
      intro post h
      have h2 := bx_weave_out hc h 16 0 rfl
      rw [Nat.mul_zero, bj_P_0] at h2
      exact h2
    have c0 : ¬ nI c < 0 := nI_pos (by omega)
    have c1 : nI c ≤ 3 := nI_le (b := 3) (by omega) (by decide)
    exact br_f c0 (br_t c1 ⟨16 + 1, hX _ (br_f c0 (br_t c1 ⟨256 + 1, hY _ ⟨rfl, hR _⟩⟩))⟩)
theorem i_vc_pixel {k : Nat} {u : SX} {v : SY} (I : i_Rel k u v) (hk : k + 4 ≤ 2048) (v1 : Int32) (v2 : Int32) : wpX_pixel (fun r => wpY_pixel (fun r' => r' = r ∧ i_Rel (k + 4) u v) v v1 v2) u v1 v2 := by
  obtain ⟨q, r, s, t, p, w, L, M, rfl, rfl, hQ, hw, hL, hM⟩ := I
  have hR : i_Rel (k + 4) (nI q, nI r, nI s, nI t, p, w, L) (nI q, nI r, nI s, nI t, p, M) := bj_mk hQ hw hL hM
  unfold wpX_pixel wpY_pixel
  dsimp only
  rcases bj_px v1 v2 with ⟨a, b, ha, hb, rfl, rfl⟩ | ⟨bX, bY⟩
  · refine bx_px ha hb (br_f bj_1 ⟨pk_in (16 * b + a) 256 (by omega) (bj_ix1 b a), ?_⟩)
    exact by_px ha hb (br_f bj_1 ⟨pk_in (16 * b + a) 256 (by omega) (bj_ix1 b a), rfl, hR⟩)
  · refine bX _ (br_t rfl ?_)
    exact bY _ _ _ _ _ _ _ (br_t rfl ⟨rfl, hR⟩)
theorem i_vc_quality {k : Nat} {u : SX} {v : SY} (I : i_Rel k u v) (hk : k + 4 ≤ 2048) (v1 : Int32) : wpX_quality (fun r u' => wpY_quality (fun r' v' => r' = r ∧ i_Rel (k + 4) u' v') v v1) u v1 := by
  obtain ⟨q, r, s, t, p, w, L, M, rfl, rfl, hQ, hw, hL, hM⟩ := I
  have hR : i_Rel (k + 4) (nI q, nI r, nI s, nI t, p, w, L) (nI q, nI r, nI s, nI t, p, M) := bj_mk hQ hw hL hM
  rcases bj_rg v1 9 (by decide) (by decide) with h | ⟨h0, h1, h2⟩ | ⟨c, hc, rfl⟩
  · have h' : v1 < 1 := Int32.lt_trans h (by decide)
    exact br_t h' (br_t h' ⟨rfl, hR⟩)
  · have h' : ¬ v1 < 1 := Int32.not_lt.mpr (Int32.le_trans (by decide : (1 : Int32) ≤ nI 9) h1)
    exact br_f h' (br_f (Int32.not_le.mpr h2) (br_f h' (br_f (Int32.not_le.mpr h2) ⟨rfl, hR⟩)))
  · by_cases h1 : 1 ≤ c
    · have c0 : ¬ nI c < 1 := nI_nlt (b := 1) h1 (by omega)
      have c1 : nI c ≤ 8 := nI_le (b := 8) (by omega) (by decide)
      exact br_f c0 (br_t c1 (br_f c0 (br_t c1 ⟨rfl, bj_mk ⟨h1, by omega, hQ.2.2⟩ hw hL hM⟩)))
    · have c0 : nI c < 1 := nI_lt (b := 1) (by omega) (by decide)
      exact br_t c0 (br_t c0 ⟨rfl, hR⟩)
theorem i_vc_interval {k : Nat} {u : SX} {v : SY} (I : i_Rel k u v) (hk : k + 4 ≤ 2048) (v1 : Int32) : wpX_interval (fun r u' => wpY_interval (fun r' v' => r' = r ∧ i_Rel (k + 4) u' v') v v1) u v1 := by
  obtain ⟨q, r, s, t, p, w, L, M, rfl, rfl, hQ, hw, hL, hM⟩ := I
  have hR : i_Rel (k + 4) (nI q, nI r, nI s, nI t, p, w, L) (nI q, nI r, nI s, nI t, p, M) := bj_mk hQ hw hL hM
  rcases bj_rg v1 5 (by decide) (by decide) with h | ⟨h0, h1, h2⟩ | ⟨c, hc, rfl⟩
  · have h' : v1 < 1 := Int32.lt_trans h (by decide)
    exact br_t h' (br_t h' ⟨rfl, hR⟩)
  · have h' : ¬ v1 < 1 := Int32.not_lt.mpr (Int32.le_trans (by decide : (1 : Int32) ≤ nI 5) h1)
    exact br_f h' (br_f (Int32.not_le.mpr h2) (br_f h' (br_f (Int32.not_le.mpr h2) ⟨rfl, hR⟩)))
  · by_cases h1 : 1 ≤ c
    · have c0 : ¬ nI c < 1 := nI_nlt (b := 1) h1 (by omega)
      have c1 : nI c ≤ 4 := nI_le (b := 4) (by omega) (by decide)
      exact br_f c0 (br_t c1 (br_f c0 (br_t c1 ⟨rfl, bj_mk ⟨hQ.1, hQ.2.1, h1, by omega, hQ.2.2.2.2⟩ hw hL hM⟩)))
    · have c0 : nI c < 1 := nI_lt (b := 1) (by omega) (by decide)
      exact br_t c0 (br_t c0 ⟨rfl, hR⟩)
theorem i_vc_store {k : Nat} {u : SX} {v : SY} (I : i_Rel k u v) (hk : k + 4 ≤ 2048) : wpX_store (fun r u' => wpY_store (fun r' v' => r' = r ∧ i_Rel (k + 4) u' v') v) u := by
  obtain ⟨q, r, s, t, p, w, L, M, rfl, rfl, hQ, hw, hL, hM⟩ := I
  obtain ⟨q1, q2, r1, r2, s1, s2, t1, t2⟩ := hQ
  have hR : i_Rel (k + 4) (nI q, nI r, nI q, nI r, p, w, bj_P (bj_gX p q) L 256) (nI q, nI r, nI q, nI r, p, bj_P (bj_gY p q) M 256) := bj_mk ⟨q1, q2, r1, r2, q1, q2, r1, r2⟩ hw (bj_st_L p L M q) (bj_st_b p q1 q2 hM)
  have hY : ∀ post : Int32 → SY → Prop, post (bj_n (bj_gY p q) 0 + bj_n (bj_gY p q) 1 + bj_n (bj_gY p q) 2 + bj_n (bj_gY p q) 3) (nI q, nI r, nI q, nI r, p, bj_P (bj_gY p q) M 256) → wY_store_18 post (nI q) (nI r) (nI q) (nI r) (256 + 1) 0 p M := by
    intro post h
    have h2 := by_store_lp q1 q2 h 256 0 rfl
    rw [bj_P_0] at h2
    exact h2
  have hX : ∀ post : Int32 → SX → Prop, post (bj_s (fun b => bj_n (bj_gX p q) b) 4) (nI q, nI r, nI q, nI r, p, w, bj_P (bj_gX p q) L 256) → wX_store_20 post (4 + 1) 0 0 (nI q) (nI r) (nI q) (nI r) p w L := by
    intro post h
    have h2 := bx_store_lp hw q1 q2 h 4 0 rfl
    rw [Nat.mul_zero, bj_P_0] at h2
    exact h2
  exact ⟨4 + 1, hX _ ⟨256 + 1, hY _ ⟨(bj_st_n p q).symm, hR⟩⟩⟩
theorem i_vc_lose {k : Nat} {u : SX} {v : SY} (I : i_Rel k u v) (hk : k + 4 ≤ 2048) (v1 : Int32) : wpX_lose (fun r u' => wpY_lose (fun r' v' => r' = r ∧ i_Rel (k + 4) u' v') v v1) u v1 := by
  obtain ⟨q, r, s, t, p, w, L, M, rfl, rfl, hQ, hw, hL, hM⟩ := I
  have hR0 : i_Rel (k + 4) (nI q, nI r, nI s, nI t, p, w, L) (nI q, nI r, nI s, nI t, p, M) := bj_mk hQ hw hL hM
  unfold wpX_lose wpY_lose
  dsimp only
  rcases bj_bl v1 with ⟨b, hb, rfl⟩ | ⟨bX, h | ⟨h, h2⟩⟩
  · obtain ⟨q1, q2, r1, r2, s1, s2, t1, t2⟩ := hQ
    have hR : i_Rel (k + 4) (nI q, nI r, nI s, nI t, p, w, bj_P (bj_lo L t b) L 256) (nI q, nI r, nI s, nI t, p, bj_P (bj_lo M t b) M 256) := bj_mk ⟨q1, q2, r1, r2, s1, s2, t1, t2⟩ hw (bj_lo_L t b hL) (bj_lo_b t b hM)
    have hY : ∀ post : Int32 → SY → Prop, post (bj_s (fun n => if n / 64 / t = b / t then bj_i (M n) else 0) 256) (nI q, nI r, nI s, nI t, p, bj_P (bj_lo M t b) M 256) → wY_lose_16 post (nI b) (nI q) (nI r) (nI s) (nI t) (256 + 1) 0 0 p M := by
      intro post h
      have h2 := by_lose_lp t1 t2 hb h 256 0 rfl
      rw [bj_P_0] at h2
      exact h2
    have hX : ∀ post : Int32 → SX → Prop, post (bj_s (fun o => if o / t = b / t then bj_n L o else 0) 4) (nI q, nI r, nI s, nI t, p, w, bj_P (bj_lo L t b) L 256) → wX_lose_22 post (nI (b / t)) (4 + 1) 0 0 (nI q) (nI r) (nI s) (nI t) p w L := by
      intro post h
      have h2 := bx_lose_lp t1 t2 hb h 4 0 rfl
      rw [Nat.mul_zero, bj_P_0] at h2
      exact h2
    refine bx_bk hb (br_f bj_1 ⟨nI_ne0 (by omega) (by omega), nm_r (pk_div (by omega) (by omega) (by omega)) ⟨4 + 1, hX _ ?_⟩⟩)
    exact br_f (nI_pos (by omega)) (br_t (nI_le (b := 3) (by omega) (by decide)) ⟨256 + 1, hY _ ⟨(bj_lo_n t b hL).symm, hR⟩⟩)
  · refine bX _ (br_t rfl ?_)
    exact br_t h ⟨rfl, hR0⟩
  · refine bX _ (br_t rfl ?_)
    exact br_f h (br_f (Int32.not_le.mpr h2) ⟨rfl, hR0⟩)
theorem i_vc_level {k : Nat} {u : SX} {v : SY} (I : i_Rel k u v) (hk : k + 4 ≤ 2048) (v1 : Int32) (v2 : Int32) (v3 : Int32) : wpX_level (fun r => wpY_level (fun r' => r' = r ∧ i_Rel (k + 4) u v) v v1 v2 v3) u v1 v2 v3 := by
  obtain ⟨q, r, s, t, p, w, L, M, rfl, rfl, hQ, hw, hL, hM⟩ := I
  have hR : i_Rel (k + 4) (nI q, nI r, nI s, nI t, p, w, L) (nI q, nI r, nI s, nI t, p, M) := bj_mk hQ hw hL hM
  unfold wpX_level wpY_level
  dsimp only
  rcases bj_bl v1 with ⟨b, hb, rfl⟩ | ⟨bX, h | ⟨h, h2⟩⟩
  · have b0 : ¬ nI b < 0 := nI_pos (by omega)
    have b1 : ¬ (3 : Int32) < nI b := nI_nlt (a := 3) (by omega) (by decide)
    refine bx_bk hb (br_f bj_1 ?_)
    rcases bj_rg v2 8 (by decide) (by decide) with h | ⟨h0, h1, h2⟩ | ⟨c, hc, rfl⟩
    · exact br_t h (br_t rfl (br_f b0 (br_f b1 (br_t h ⟨rfl, hR⟩))))
    · exact br_f h0 (br_t h1 (br_t rfl (br_f b0 (br_f b1 (br_f h0 (br_t h2 ⟨rfl, hR⟩))))))
    · have c0 : ¬ nI c < 0 := nI_pos (by omega)
      have c1 : ¬ (8 : Int32) ≤ nI c := nI_ge (b := 8) hc (by decide)
      have c2 : ¬ (7 : Int32) < nI c := nI_nlt (a := 7) (by omega) (by decide)
      rcases bj_rg v3 8 (by decide) (by decide) with h | ⟨h0, h1, h2⟩ | ⟨e, he, rfl⟩
      · exact br_f c0 (br_f c1 (br_t h (br_t rfl (br_f b0 (br_f b1 (br_f c0 (br_f c2 (br_t h ⟨rfl, hR⟩))))))))
      · exact br_f c0 (br_f c1 (br_f h0 (br_t h1 (br_t rfl (br_f b0 (br_f b1 (br_f c0 (br_f c2 (br_f h0 (br_f (Int32.not_le.mpr h2) ⟨rfl, hR⟩))))))))))
      · have e0 : ¬ nI e < 0 := nI_pos (by omega)
        have e1 : ¬ (8 : Int32) ≤ nI e := nI_ge (b := 8) he (by decide)
        have e2 : nI e ≤ (7 : Int32) := nI_le (b := 7) (by omega) (by decide)
        have eq : M ((64 : Int32) * nI b + (8 : Int32) * nI e + nI c).toNatClampNeg = L ((64 : Int32) * nI b + (8 : Int32) * nI c + nI e).toNatClampNeg := by
          rw [bj_rd_at (a := M) (bj_ix2 b e c) (by omega), bj_rd_at (a := L) (bj_ix2 b c e) (by omega)]
          exact (hL b c e hb hc he).symm
        exact br_f c0 (br_f c1 (br_f e0 (br_f e1 (br_f bj_1 ⟨pk_in (64 * b + 8 * c + e) 256 (by omega) (bj_ix2 b c e), br_f b0 (br_f b1 (br_f c0 (br_f c2 (br_f e0 (br_t e2 ⟨pk_in (64 * b + 8 * e + c) 256 (by omega) (bj_ix2 b e c), eq, hR⟩)))))⟩))))
  · refine bX _ (br_t rfl ?_)
    exact br_t h ⟨rfl, hR⟩
  · refine bX _ (br_t rfl ?_)
    exact br_f h (br_t h2 ⟨rfl, hR⟩)
theorem i_vc_show {k : Nat} {u : SX} {v : SY} (I : i_Rel k u v) (hk : k + 4 ≤ 2048) (v1 : Int32) (v2 : Int32) : wpX_show (fun r => wpY_show (fun r' => r' = r ∧ i_Rel (k + 4) u v) v v1 v2) u v1 v2 := by
  obtain ⟨q, r, s, t, p, w, L, M, rfl, rfl, hQ, hw, hL, hM⟩ := I
  have hR : i_Rel (k + 4) (nI q, nI r, nI s, nI t, p, w, L) (nI q, nI r, nI s, nI t, p, M) := bj_mk hQ hw hL hM
  rcases bj_px v1 v2 with ⟨a, b, ha, hb, rfl, rfl⟩ | ⟨bX, bY⟩
  · unfold wpX_show
    dsimp only
    refine bx_px ha hb (br_f bj_1 (bx_sg hw hL hM hQ.2.2.2.2.2.1 ha hb ?_))
    exact by_sh ha hb ⟨rfl, hR⟩
  · unfold wpX_show wpY_show
    dsimp only
    refine bX _ (br_t rfl ?_)
    exact bY _ _ _ _ _ _ _ (br_t rfl ⟨rfl, hR⟩)
theorem i_vc_difference {k : Nat} {u : SX} {v : SY} (I : i_Rel k u v) (hk : k + 4 ≤ 2048) : wpX_difference (fun r => wpY_difference (fun r' => r' = r ∧ i_Rel (k + 4) u v) v) u := by
  obtain ⟨q, r, s, t, p, w, L, M, rfl, rfl, hQ, hw, hL, hM⟩ := I
  have hR : i_Rel (k + 4) (nI q, nI r, nI s, nI t, p, w, L) (nI q, nI r, nI s, nI t, p, M) := bj_mk hQ hw hL hM
  exact bx_df hw hL hM hQ.2.2.2.2.2.1 (by_df ⟨rfl, hR⟩)
theorem i_vc_adopt {k : Nat} {u : SX} {v : SY} (I : i_Rel k u v) (hk : k + 4 ≤ 2048) : wpX_adopt (fun r u' => wpY_adopt (fun r' v' => r' = r ∧ i_Rel (k + 4) u' v') v) u := by
  obtain ⟨q, r, s, t, p, w, L, M, rfl, rfl, hQ, hw, hL, hM⟩ := I
  have hR : i_Rel (k + 4) (nI q, nI r, nI s, nI t, bj_P (bj_ad M s) p 256, w, L) (nI q, nI r, nI s, nI t, bj_P (bj_ad M s) p 256, M) := bj_mk hQ hw hL hM
  unfold wpX_adopt wpY_adopt
  dsimp only
  have hY : ∀ (c : Int32) (post : Int32 → SY → Prop), post c (nI q, nI r, nI s, nI t, bj_P (bj_ad M s) p 256, M) → wY_adopt_7 post c (nI q) (nI r) (nI s) (nI t) (256 + 1) 0 p M := by
    intro c post h
    have h2 := by_ad h 256 0 rfl
    rw [bj_P_0] at h2
    exact h2
  have hX : ∀ (c : Int32) (post : Int32 → SX → Prop), post c (nI q, nI r, nI s, nI t, bj_P (bj_ad M s) p 256, w, L) → wX_adopt_7 post c (nI q) (nI r) (nI s) (nI t) (16 + 1) 0 p w L := by
    intro c post h
    have h2 := bx_ad_out hw hL hM hQ.2.2.2.2.2.1 h 16 0 rfl
    rw [Nat.mul_zero, bj_P_0] at h2
    exact h2
  refine bx_df hw hL hM hQ.2.2.2.2.2.1 ⟨16 + 1, hX _ _ ?_⟩
  exact by_df ⟨256 + 1, hY _ _ ⟨rfl, hR⟩⟩
theorem i_vc_weight {k : Nat} {u : SX} {v : SY} (I : i_Rel k u v) (hk : k + 4 ≤ 2048) (v1 : Int32) : wpX_weight (fun r => wpY_weight (fun r' => r' = r ∧ i_Rel (k + 4) u v) v v1) u v1 := by
  obtain ⟨q, r, s, t, p, w, L, M, rfl, rfl, hQ, hw, hL, hM⟩ := I
  have hR : i_Rel (k + 4) (nI q, nI r, nI s, nI t, p, w, L) (nI q, nI r, nI s, nI t, p, M) := bj_mk hQ hw hL hM
  rcases bj_bl v1 with ⟨b, hb, rfl⟩ | ⟨bX, h⟩
  · unfold wpX_weight
    dsimp only
    refine bx_bk hb (br_f bj_1 (bx_cn hb ?_))
    exact by_cn hb ⟨(bj_n_tr b (fun u v hu hv => hL b u v hb hu hv)).symm, hR⟩
  · unfold wpX_weight wpY_weight
    dsimp only
    refine bX _ (br_t rfl ?_)
    rcases h with h | ⟨h, h2⟩
    · exact br_t h ⟨rfl, hR⟩
    · exact br_f h (br_f (Int32.not_le.mpr h2) ⟨rfl, hR⟩)
