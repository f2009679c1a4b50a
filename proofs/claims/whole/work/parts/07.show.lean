/-! what is shown; difference and adopt -/
section
variable {nq ni sq si : Int32} {p w L M : Nat → Int32}
theorem bx_sg_in {post : Int32 → Prop} {J : Int64 → Int32 → Prop} {q b i j u : Nat} {A : Int64} (hw : bj_Ww w) (hb : b < 4) (hi : i < 8) (hj : j < 8) (hu : u < 8)
    (hJ : J (A + bj_S (fun v => bj_tx L q b i j u v) 8) (nI (u + 1))) :
    ∀ d v : Nat, v + d = 8 → wX_shownGrey_40 post J (nI b) (nI i) (nI j) (nI u) nq ni (nI q) si p w L (d + 1) (A + bj_S (fun v => bj_tx L q b i j u v) v) (nI v) := by
  intro d
  induction d with
  | zero =>
    intro v hv
    obtain rfl : v = 8 := by omega
    exact br_t (nI_le (a := 8) (b := 8) (by omega) (by decide)) (nm_r (nI_1 u) hJ)
  | succ d ih =>
    intro v hv
    have hv' : v < 8 := by omega
    have e : A + bj_S (fun v => bj_tx L q b i j u v) v + (bj_e u * bj_e v).toInt64 * ((L ((64 : Int32) * nI b + (8 : Int32) * nI u + nI v).toNatClampNeg).toInt64 * (nI (bj_D q u v)).toInt64) * (w ((8 : Int32) * nI u + nI i).toNatClampNeg * w ((8 : Int32) * nI v + nI j).toNatClampNeg).toInt64 = A + bj_S (fun v => bj_tx L q b i j u v) (v + 1) := by
      rw [bj_rd_at (a := L) (bj_ix2 b u v) (by omega), bj_rd_at (a := w) (bj_ix3 u i) (by omega), bj_rd_at (a := w) (bj_ix3 v j) (by omega), hw u i hu hi, hw v j hv' hj, Int64.add_assoc]
      rfl
    exact br_f (nI_ge (b := 8) (by omega) (by decide)) ⟨pk_in (64 * b + 8 * u + v) 256 (by omega) (bj_ix2 b u v), bx_st (nm_e ⟨pk_in (8 * u + i) 64 (by omega) (bj_ix3 u i), pk_in (8 * v + j) 64 (by omega) (bj_ix3 v j), nm_e (bx_sf hu (bx_sf hv' (nm_r e (nm_r (nI_1 v) (ih (v + 1) (by omega))))))⟩)⟩
theorem bx_sg_out {post : Int32 → Prop} {q b i j : Nat} (hw : bj_Ww w) (hb : b < 4) (hi : i < 8) (hj : j < 8) (k : post (bj_cl (128 + (bj_z (bj_TX L q b i j)).toInt32))) :
    ∀ d u : Nat, u + d = 8 → wX_shownGrey_30 post (nI b) (nI i) (nI j) nq ni (nI q) si p w L (d + 1) (bj_S (fun u => bj_S (fun v => bj_tx L q b i j u v) 8) u) (nI u) := by
  intro d
  induction d with
  | zero =>
    intro u hu
    obtain rfl : u = 8 := by omega
    exact br_t (nI_le (a := 8) (b := 8) (by omega) (by decide)) (nm_e (bx_ng k))
  | succ d ih =>
    intro u hu
    have h := bx_sg_in (post := post) (nq := nq) (ni := ni) (si := si) (p := p) hw hb hi hj (show u < 8 by omega) (ih (u + 1) (by omega)) 8 0 rfl
    rw [bj_S0] at h
    exact br_f (nI_ge (b := 8) (by omega) (by decide)) ⟨8 + 1, h⟩
theorem bx_sg {post : Int32 → Prop} {q x y : Nat} (hw : bj_Ww w) (hL : bj_Lr L M) (hM : bj_Mb M) (hq : q ≤ 8) (hx : x < 16) (hy : y < 16) (k : post (bj_sh M q x y)) : wpX_shownGrey post (nq, ni, nI q, si, p, w, L) (nI x) (nI y) := by
  have e : (2 : Int32) * (nI y / 8) + nI x / 8 = nI (2 * (y / 8) + x / 8) := by
    rw [bj_d8 (by omega), bj_d8 (by omega)]
    exact bj_bk _ _
  rw [← bj_sh_x hL hM hq hx hy] at k
  exact ⟨by decide, by decide, nm_r e ⟨by decide, nm_r (bj_m8 (by omega)) ⟨by decide, nm_r (bj_m8 (by omega)) ⟨8 + 1, bx_sg_out hw (by omega) (by omega) (by omega) k 8 0 rfl⟩⟩⟩⟩
/-! the reference -/
theorem by_67 {post : Int32 → Prop} {J30 J40 : Int64 → Int32 → Prop} {q x y b u v : Nat} {A : Int64} {z0 z1 : Int32} (hx : x < 16) (hy : y < 16) (hb : b < 4) (hu : u < 8) (hv : v < 8) (h0 : z0 = bj_e v) (h1 : z1 = bj_e u)
    (k : J40 (A + bj_t M q b (x % 8) (y % 8) u v) (nI (u + 1))) : wY_show_67 post J30 J40 (nI x) (nI y) (nI b) A (nI v) (nI u) z0 z1 nq ni (nI q) si p M := by
  subst h0 h1
  have e : A + (bj_e u * bj_e v).toInt64 * (M ((64 : Int32) * nI b + (8 : Int32) * nI v + nI u).toNatClampNeg).toInt64 * (nI (bj_D q u v)).toInt64 * (bj_K u (x % 8)).toInt64 * (bj_K v (y % 8)).toInt64 = A + bj_t M q b (x % 8) (y % 8) u v := by
    rw [bj_rd_at (a := M) (bj_ix2 b v u) (by omega)]
    rfl
  refine nm_e ⟨pk_in (64 * b + 8 * v + u) 256 (by omega) (bj_ix2 b v u), by_st (nm_e ⟨by decide, ?_⟩)⟩
  rw [bj_m8 (show x < 256 by omega)]
  refine by_k hu (by omega) ⟨by decide, ?_⟩
  rw [bj_m8 (show y < 256 by omega)]
  exact by_k hv (by omega) (nm_r e (nm_r (nI_1 u) k))
theorem by_57 {post : Int32 → Prop} {J30 J40 : Int64 → Int32 → Prop} {q x y b u v : Nat} {A : Int64} {z1 : Int32} (hx : x < 16) (hy : y < 16) (hb : b < 4) (hu : u < 8) (hv : v < 8) (h1 : z1 = bj_e u)
    (k : J40 (A + bj_t M q b (x % 8) (y % 8) u v) (nI (u + 1))) : wY_show_57 post J30 J40 (nI x) (nI y) (nI b) A (nI v) (nI u) z1 nq ni (nI q) si p M :=
  pk_eq v 0 (fun h => by_67 hx hy hb hu hv (by rw [bj_e, if_pos h]) h1 k) (fun h => by_67 hx hy hb hu hv (by rw [bj_e, if_neg h]) h1 k)
theorem by_sh_in {post : Int32 → Prop} {J : Int64 → Int32 → Prop} {q x y b v : Nat} {A : Int64} (hx : x < 16) (hy : y < 16) (hb : b < 4) (hv : v < 8)
    (hJ : J (A + bj_S (fun u => bj_t M q b (x % 8) (y % 8) u v) 8) (nI (v + 1))) :
    ∀ d u : Nat, u + d = 8 → wY_show_40 post J (nI x) (nI y) (nI b) (nI v) nq ni (nI q) si p M (d + 1) (A + bj_S (fun u => bj_t M q b (x % 8) (y % 8) u v) u) (nI u) := by
  intro d
  induction d with
  | zero =>
    intro u hu
    obtain rfl : u = 8 := by omega
    exact br_t (nI_le (a := 8) (b := 8) (by omega) (by decide)) (nm_r (nI_1 v) hJ)
  | succ d ih =>
    intro u hu
    have k := ih (u + 1) (by omega)
    rw [show A + bj_S (fun u => bj_t M q b (x % 8) (y % 8) u v) (u + 1) = A + bj_S (fun u => bj_t M q b (x % 8) (y % 8) u v) u + bj_t M q b (x % 8) (y % 8) u v from (Int64.add_assoc _ _ _).symm] at k
    exact br_f (nI_ge (b := 8) (by omega) (by decide)) (pk_eq u 0 (fun h => by_57 hx hy hb (by omega) hv (by rw [bj_e, if_pos h]) k) (fun h => by_57 hx hy hb (by omega) hv (by rw [bj_e, if_neg h]) k))
theorem by_sh_out {post : Int32 → Prop} {q x y b : Nat} (hx : x < 16) (hy : y < 16) (hb : b < 4) (k : post (bj_yz (bj_z (bj_T M q b (x % 8) (y % 8))))) :
    ∀ d v : Nat, v + d = 8 → wY_show_30 post (nI x) (nI y) (nI b) nq ni (nI q) si p M (d + 1) (bj_S (fun v => bj_S (fun u => bj_t M q b (x % 8) (y % 8) u v) 8) v) (nI v) := by
  intro d
  induction d with
  | zero =>
    intro v hv
    obtain rfl : v = 8 := by omega
    refine br_t (nI_le (a := 8) (b := 8) (by omega) (by decide)) (nm_r (e' := bj_z (bj_T M q b (x % 8) (y % 8))) rfl ?_)
    unfold bj_yz at k
    by_cases h1 : bj_z (bj_T M q b (x % 8) (y % 8)) < -128
    · rw [if_pos h1] at k
      exact br_f (Int64.not_le.mpr h1) k
    · rw [if_neg h1] at k
      by_cases h2 : 127 < bj_z (bj_T M q b (x % 8) (y % 8))
      · rw [if_pos h2] at k
        exact br_t (Int64.not_lt.mp h1) (br_f (Int64.not_le.mpr h2) k)
      · rw [if_neg h2] at k
        exact br_t (Int64.not_lt.mp h1) (br_t (Int64.not_lt.mp h2) k)
  | succ d ih =>
    intro v hv
    have h := by_sh_in (post := post) (nq := nq) (ni := ni) (si := si) (p := p) hx hy hb (show v < 8 by omega) (ih (v + 1) (by omega)) 8 0 rfl
    rw [bj_S0] at h
    exact br_f (nI_ge (b := 8) (by omega) (by decide)) ⟨8 + 1, h⟩
theorem by_sh {post : Int32 → Prop} {q x y : Nat} (hx : x < 16) (hy : y < 16) (k : post (bj_sh M q x y)) : wpY_show post (nq, ni, nI q, si, p, M) (nI x) (nI y) := by
  have e : (2 : Int32) * (nI y / 8) + nI x / 8 = nI (2 * (y / 8) + x / 8) := by
    rw [bj_d8 (by omega), bj_d8 (by omega)]
    exact bj_bk _ _
  unfold wpY_show
  dsimp only
  refine by_px hx hy (br_f bj_1 ⟨by decide, by decide, nm_r e ⟨8 + 1, ?_⟩⟩)
  exact by_sh_out hx hy (by omega) k 8 0 rfl
theorem by_sn {post : Int32 → Prop} {q n : Nat} (hn : n < 256) (k : post (bj_sh M q (n % 16) (n / 16))) : wpY_show post (nq, ni, nI q, si, p, M) (nI n &&& 15) (nI n >>> ((4 : Int32) &&& 31)) := by
  rw [bj_a15 hn, bj_r4 hn]
  exact by_sh (by omega) (by omega) k
/-! difference -/
def bj_d (p M : Nat → Int32) (q : Nat) : Nat → Int32 := fun m => bj_ab (p m - bj_sh M q (m % 16) (m / 16))
theorem bj_d_p {q n : Nat} {s : Int32} (hs : s = p n - bj_sh M q (n % 16) (n / 16)) (h : 0 ≤ s) : bj_s (bj_d p M q) n + s = bj_s (bj_d p M q) (n + 1) := by
  show _ = bj_s (bj_d p M q) n + (if p n - bj_sh M q (n % 16) (n / 16) < 0 then -(p n - bj_sh M q (n % 16) (n / 16)) else p n - bj_sh M q (n % 16) (n / 16))
  rw [← hs, if_neg (Int32.not_lt.mpr h)]
theorem bj_d_m {q n : Nat} {s : Int32} (hs : s = p n - bj_sh M q (n % 16) (n / 16)) (h : ¬ 0 ≤ s) : bj_s (bj_d p M q) n + -s = bj_s (bj_d p M q) (n + 1) := by
  show _ = bj_s (bj_d p M q) n + (if p n - bj_sh M q (n % 16) (n / 16) < 0 then -(p n - bj_sh M q (n % 16) (n / 16)) else p n - bj_sh M q (n % 16) (n / 16))
  rw [← hs, if_pos (Int32.not_le.mp h)]
theorem bx_df_in {post : Int32 → Prop} {J : Int32 → Int32 → Prop} {q y : Nat} (hw : bj_Ww w) (hL : bj_Lr L M) (hM : bj_Mb M) (hq : q ≤ 8) (hy : y < 16)
    (hJ : J (bj_s (bj_d p M q) (16 * (y + 1))) (nI (y + 1))) :
    ∀ d x : Nat, x + d = 16 → wX_difference_12 post J (nI y) nq ni (nI q) si p w L (d + 1) (bj_s (bj_d p M q) (16 * y + x)) (nI x) := by
  intro d
  induction d with
  | zero =>
    intro x hx
    obtain rfl : x = 16 := by omega
    exact br_t (nI_le (a := 16) (b := 16) (by omega) (by decide)) (nm_r (nI_1 y) hJ)
  | succ d ih =>
    intro x hx
    have hx' : x < 16 := by omega
    have e : p ((16 : Int32) * nI y + nI x).toNatClampNeg - bj_sh M q x y = p (16 * y + x) - bj_sh M q ((16 * y + x) % 16) ((16 * y + x) / 16) := by
      rw [bj_rd_at (a := p) (bj_ix1 y x) (by omega), bj_q1 hx', bj_q2 hx']
    exact br_f (nI_ge (b := 16) (by omega) (by decide)) ⟨pk_in (16 * y + x) 256 (by omega) (bj_ix1 y x), bx_sg hw hL hM hq hx' hy (nm_e (br_c (fun h => nm_r (bj_d_p e h) (nm_r (nI_1 x) (ih (x + 1) (by omega)))) (fun h => nm_r (bj_d_m e h) (nm_r (nI_1 x) (ih (x + 1) (by omega))))))⟩
theorem bx_df_out {post : Int32 → Prop} {q : Nat} (hw : bj_Ww w) (hL : bj_Lr L M) (hM : bj_Mb M) (hq : q ≤ 8) (k : post (bj_s (bj_d p M q) 256)) :
    ∀ d y : Nat, y + d = 16 → wX_difference_4 post nq ni (nI q) si p w L (d + 1) (bj_s (bj_d p M q) (16 * y)) (nI y) := by
  intro d
  induction d with
  | zero =>
    intro y hy
    obtain rfl : y = 16 := by omega
    exact br_t (nI_le (a := 16) (b := 16) (by omega) (by decide)) k
  | succ d ih =>
    intro y hy
    exact br_f (nI_ge (b := 16) (by omega) (by decide)) ⟨16 + 1, bx_df_in hw hL hM hq (by omega) (ih (y + 1) (by omega)) 16 0 rfl⟩
theorem bx_df {post : Int32 → Prop} {q : Nat} (hw : bj_Ww w) (hL : bj_Lr L M) (hM : bj_Mb M) (hq : q ≤ 8) (k : post (bj_s (bj_d p M q) 256)) : wpX_difference post (nq, ni, nI q, si, p, w, L) :=
  ⟨16 + 1, bx_df_out hw hL hM hq k 16 0 rfl⟩
theorem by_df_lp {post : Int32 → Prop} {q : Nat} (k : post (bj_s (bj_d p M q) 256)) :
    ∀ d n : Nat, n + d = 256 → wY_difference_4 post nq ni (nI q) si p M (d + 1) (bj_s (bj_d p M q) n) (nI n) := by
  intro d
  induction d with
  | zero =>
    intro n hn
    obtain rfl : n = 256 := by omega
    exact br_t (nI_le (a := 256) (b := 256) (by omega) (by decide)) k
  | succ d ih =>
    intro n hn
    have e : p (nI n).toNatClampNeg - bj_sh M q (n % 16) (n / 16) = p n - bj_sh M q (n % 16) (n / 16) := by rw [nI_clamp (by omega)]
    exact br_f (nI_ge (b := 256) (by omega) (by decide)) ⟨pk_in n 256 (by omega) rfl, by_sn (by omega) (nm_e (br_c (fun h => nm_r (bj_d_p e h) (nm_r (nI_1 n) (ih (n + 1) (by omega)))) (fun h => nm_r (bj_d_m e h) (nm_r (nI_1 n) (ih (n + 1) (by omega))))))⟩
theorem by_df {post : Int32 → Prop} {q : Nat} (k : post (bj_s (bj_d p M q) 256)) : wpY_difference post (nq, ni, nI q, si, p, M) :=
  ⟨256 + 1, by_df_lp k 256 0 rfl⟩
/-! adopt -/
def bj_ad (M : Nat → Int32) (q : Nat) : Nat → Int32 := fun m => bj_sh M q (m % 16) (m / 16)
theorem bj_ad_at {q x y : Nat} (hx : x < 16) : bj_sh M q x y = bj_ad M q (16 * y + x) := by
  show _ = bj_sh M q ((16 * y + x) % 16) ((16 * y + x) / 16)
  rw [bj_q1 hx, bj_q2 hx]
theorem bx_ad_in {post : Int32 → SX → Prop} {J : Int32 → (Nat → Int32) → (Nat → Int32) → (Nat → Int32) → Prop} {c : Int32} {q y : Nat} (hw : bj_Ww w) (hL : bj_Lr L M) (hM : bj_Mb M) (hq : q ≤ 8) (hy : y < 16)
    (hJ : J (nI (y + 1)) (bj_P (bj_ad M q) p (16 * (y + 1))) w L) :
    ∀ d x : Nat, x + d = 16 → wX_adopt_15 post J c (nI y) nq ni (nI q) si (d + 1) (nI x) (bj_P (bj_ad M q) p (16 * y + x)) w L := by
  intro d
  induction d with
  | zero =>
    intro x hx
    obtain rfl : x = 16 := by omega
    exact br_t (nI_le (a := 16) (b := 16) (by omega) (by decide)) (nm_r (nI_1 y) hJ)
  | succ d ih =>
    intro x hx
    have hx' : x < 16 := by omega
    exact br_f (nI_ge (b := 16) (by omega) (by decide)) (bx_sg hw hL hM hq hx' hy ⟨pk_in (16 * y + x) 256 (by omega) (bj_ix1 y x), nm_r (bj_P_w (bj_ix1 y x) (by omega) (bj_ad_at hx')) (nm_r (nI_1 x) (ih (x + 1) (by omega)))⟩)
theorem bx_ad_out {post : Int32 → SX → Prop} {c : Int32} {q : Nat} (hw : bj_Ww w) (hL : bj_Lr L M) (hM : bj_Mb M) (hq : q ≤ 8) (k : post c (nq, ni, nI q, si, bj_P (bj_ad M q) p 256, w, L)) :
    ∀ d y : Nat, y + d = 16 → wX_adopt_7 post c nq ni (nI q) si (d + 1) (nI y) (bj_P (bj_ad M q) p (16 * y)) w L := by
  intro d
  induction d with
  | zero =>
    intro y hy
    obtain rfl : y = 16 := by omega
    exact br_t (nI_le (a := 16) (b := 16) (by omega) (by decide)) k
  | succ d ih =>
    intro y hy
    exact br_f (nI_ge (b := 16) (by omega) (by decide)) ⟨16 + 1, bx_ad_in hw hL hM hq (by omega) (ih (y + 1) (by omega)) 16 0 rfl⟩
theorem by_ad {post : Int32 → SY → Prop} {c : Int32} {q : Nat} (k : post c (nq, ni, nI q, si, bj_P (bj_ad M q) p 256, M)) :
    ∀ d n : Nat, n + d = 256 → wY_adopt_7 post c nq ni (nI q) si (d + 1) (nI n) (bj_P (bj_ad M q) p n) M := by
  intro d
  induction d with
  | zero =>
    intro n hn
    obtain rfl : n = 256 := by omega
    exact br_t (nI_le (a := 256) (b := 256) (by omega) (by decide)) k
  | succ d ih =>
    intro n hn
    exact br_f (nI_ge (b := 256) (by omega) (by decide)) (by_sn (by omega) ⟨pk_in n 256 (by omega) rfl, nm_r (bj_P_w rfl (by omega) rfl) (nm_r (nI_1 n) (ih (n + 1) (by omega)))⟩)
end
