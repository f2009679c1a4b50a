/-! the levels: counts, store, lose -/
section
variable {nq ni sq si : Int32} {p w L M : Nat → Int32}
theorem bj_s0 (A : Int32) (f : Nat → Int32) : A + bj_s f 0 = A := Int32.add_zero A
theorem bj_S0 (A : Int64) (f : Nat → Int64) : A + bj_S f 0 = A := Int64.add_zero A
/-! counts -/
def bj_f (L : Nat → Int32) (b : Nat) : Nat → Int32 := fun k => bj_i (L (64 * b + k))
theorem bj_f_0 {b k : Nat} {i : Int32} (hi : i = nI (64 * b + k)) (hk : 64 * b + k < 256) (h : L i.toNatClampNeg = 0) : bj_s (bj_f L b) k = bj_s (bj_f L b) (k + 1) := by
  rw [bj_rd_at (a := L) hi (by omega)] at h
  show _ = bj_s (bj_f L b) k + (if L (64 * b + k) = 0 then (0 : Int32) else 1)
  rw [if_pos h, Int32.add_zero]
theorem bj_f_1 {b k : Nat} {i : Int32} (hi : i = nI (64 * b + k)) (hk : 64 * b + k < 256) (h : ¬ L i.toNatClampNeg = 0) : bj_s (bj_f L b) k + 1 = bj_s (bj_f L b) (k + 1) := by
  rw [bj_rd_at (a := L) hi (by omega)] at h
  show _ = bj_s (bj_f L b) k + (if L (64 * b + k) = 0 then (0 : Int32) else 1)
  rw [if_neg h]
theorem bx_cn_lp {b : Nat} (hb : b < 4) {post : Int32 → Prop} (k : post (bj_n L b)) :
    ∀ d i : Nat, i + d = 64 → wX_countLevels_4 post (nI b) nq ni sq si p w L (d + 1) (bj_s (bj_f L b) i) (nI i) := by
  intro d
  induction d with
  | zero =>
    intro i hi
    obtain rfl : i = 64 := by omega
    exact br_t (nI_le (a := 64) (b := 64) (by omega) (by decide)) k
  | succ d ih =>
    intro i hi
    refine br_f (nI_ge (b := 64) (by omega) (by decide)) ⟨pk_in (64 * b + i) 256 (by omega) (bj_ix4 b i), br_c (fun h => ?_) (fun h => ?_)⟩
    · rw [bj_f_0 (bj_ix4 b i) (by omega) h]
      exact nm_r (nI_1 i) (ih (i + 1) (by omega))
    · exact nm_r (bj_f_1 (bj_ix4 b i) (by omega) h) (nm_r (nI_1 i) (ih (i + 1) (by omega)))
theorem bx_cn {b : Nat} (hb : b < 4) {post : Int32 → Prop} (k : post (bj_n L b)) : wpX_countLevels post (nq, ni, sq, si, p, w, L) (nI b) :=
  ⟨64 + 1, bx_cn_lp hb k 64 0 rfl⟩
theorem by_cn_lp {b : Nat} (hb : b < 4) {post : Int32 → Prop} (k : post (bj_n M b)) :
    ∀ d i : Nat, i + d = 64 → wY_weight_19 post (nI b) nq ni sq si p M (d + 1) (bj_s (bj_f M b) i) (nI (64 * b + i)) := by
  intro d
  induction d with
  | zero =>
    intro i hi
    obtain rfl : i = 64 := by omega
    exact pk_le (64 * b + 64) (64 * b + 64) (fun _ => k) (fun h => absurd h (by omega)) (bj_ix4 b 64)
  | succ d ih =>
    intro i hi
    refine pk_le (64 * b + 64) (64 * b + i) (fun h => absurd h (by omega)) (fun _ => ⟨pk_in (64 * b + i) 256 (by omega) rfl, br_c (fun h => ?_) (fun h => ?_)⟩) (bj_ix4 b 64)
    · rw [bj_f_0 rfl (by omega) h]
      exact nm_r (nI_1 (64 * b + i)) (ih (i + 1) (by omega))
    · exact nm_r (bj_f_1 rfl (by omega) h) (nm_r (nI_1 (64 * b + i)) (ih (i + 1) (by omega)))
theorem by_cn {b : Nat} (hb : b < 4) {post : Int32 → Prop} (k : post (bj_n M b)) : wpY_weight post (nq, ni, sq, si, p, M) (nI b) :=
  br_f (nI_pos (by omega)) (br_t (nI_le (b := 3) (by omega) (by decide)) (nm_r (e' := nI (64 * b + 0)) (pk_mul 64 b) ⟨64 + 1, by_cn_lp hb k 64 0 rfl⟩))
/-! the sum S -/
def bj_g (p : Nat → Int32) (b u v j : Nat) : Nat → Int32 := fun i => (p (128 * (b / 2) + 8 * (b % 2) + 16 * j + i) - 128) * bj_K u i * bj_K v j
theorem bj_ix8 (b j i : Nat) : (16 : Int32) * (nI (8 * (b / 2)) + nI j) + nI (8 * (b % 2)) + nI i = nI (128 * (b / 2) + 8 * (b % 2) + 16 * j + i) :=
  (bj_ix5 (8 * (b / 2)) j (8 * (b % 2)) i).trans (congrArg nI (by omega))
theorem bx_ws_in {post : Int32 → Prop} {J : Int32 → Int32 → Prop} {b u v j : Nat} {A : Int32} (hw : bj_Ww w) (hb : b < 4) (hu : u < 8) (hv : v < 8) (hj : j < 8)
    (hJ : J (A + bj_s (bj_g p b u v j) 8) (nI (j + 1))) :
    ∀ d i : Nat, i + d = 8 → wX_waveSum_32 post J (nI u) (nI v) (nI (8 * (b % 2))) (nI (8 * (b / 2))) (nI j) nq ni sq si p w L (d + 1) (A + bj_s (bj_g p b u v j) i) (nI i) := by
  intro d
  induction d with
  | zero =>
    intro i hi
    obtain rfl : i = 8 := by omega
    exact br_t (nI_le (a := 8) (b := 8) (by omega) (by decide)) (nm_r (nI_1 j) hJ)
  | succ d ih =>
    intro i hi
    have e : A + bj_s (bj_g p b u v j) i + (p (((16 : Int32) * (nI (8 * (b / 2)) + nI j)) + nI (8 * (b % 2)) + nI i).toNatClampNeg - 128) * w ((8 : Int32) * nI u + nI i).toNatClampNeg * w ((8 : Int32) * nI v + nI j).toNatClampNeg = A + bj_s (bj_g p b u v j) (i + 1) := by
      rw [bj_rd_at (a := p) (bj_ix8 b j i) (by omega), bj_rd_at (a := w) (bj_ix3 u i) (by omega), bj_rd_at (a := w) (bj_ix3 v j) (by omega), hw u i hu (by omega), hw v j hv hj, Int32.add_assoc]
      rfl
    exact br_f (nI_ge (b := 8) (by omega) (by decide)) ⟨pk_in (128 * (b / 2) + 8 * (b % 2) + 16 * j + i) 256 (by omega) (bj_ix8 b j i), nm_e ⟨pk_in (8 * u + i) 64 (by omega) (bj_ix3 u i), pk_in (8 * v + j) 64 (by omega) (bj_ix3 v j), nm_r e (nm_r (nI_1 i) (ih (i + 1) (by omega)))⟩⟩
theorem bx_ws_out {post : Int32 → Prop} {b u v : Nat} (hw : bj_Ww w) (hb : b < 4) (hu : u < 8) (hv : v < 8) (k : post (bj_sm p b u v)) :
    ∀ d j : Nat, j + d = 8 → wX_waveSum_22 post (nI u) (nI v) (nI (8 * (b % 2))) (nI (8 * (b / 2))) nq ni sq si p w L (d + 1) (bj_s (fun j => bj_s (bj_g p b u v j) 8) j) (nI j) := by
  intro d
  induction d with
  | zero =>
    intro j hj
    obtain rfl : j = 8 := by omega
    exact br_t (nI_le (a := 8) (b := 8) (by omega) (by decide)) k
  | succ d ih =>
    intro j hj
    have h := bx_ws_in (post := post) (nq := nq) (ni := ni) (sq := sq) (si := si) (L := L) hw hb hu hv (show j < 8 by omega) (ih (j + 1) (by omega)) 8 0 rfl
    rw [bj_s0] at h
    exact br_f (nI_ge (b := 8) (by omega) (by decide)) ⟨8 + 1, h⟩
theorem bx_ws {post : Int32 → Prop} {b u v : Nat} (hw : bj_Ww w) (hb : b < 4) (hu : u < 8) (hv : v < 8) (k : post (bj_sm p b u v)) : wpX_waveSum post (nq, ni, sq, si, p, w, L) (nI b) (nI u) (nI v) := by
  have e1 : (8 : Int32) * (nI b - nI b / 2 * 2) = nI (8 * (b % 2)) := by
    rw [bj_m2 (by omega)]
    exact pk_mul 8 _
  have e2 : (8 : Int32) * (nI b / 2) = nI (8 * (b / 2)) := by
    rw [bj_d2 (by omega)]
    exact pk_mul 8 _
  exact ⟨by decide, nm_r e1 ⟨by decide, nm_r e2 ⟨8 + 1, bx_ws_out hw hb hu hv k 8 0 rfl⟩⟩⟩
/-! storeBlock and store -/
theorem bj_gX_at {q b u v : Nat} (hu : u < 8) (hv : v < 8) : bj_rd (bj_sm p b u v) (nI (bj_D q u v)) = bj_gX p q (64 * b + 8 * u + v) := by
  show _ = bj_lv p q ((64 * b + 8 * u + v) / 64) ((64 * b + 8 * u + v) / 8 % 8) ((64 * b + 8 * u + v) % 8)
  rw [bj_q3 hu hv, bj_q4 hu hv, bj_q5 hu hv]
  rfl
theorem bx_sb_in {post : SX → Prop} {J : Int32 → (Nat → Int32) → (Nat → Int32) → (Nat → Int32) → Prop} {q b u : Nat} (hw : bj_Ww w) (h1 : 1 ≤ q) (hq : q ≤ 8) (hb : b < 4) (hu : u < 8)
    (hJ : J (nI (u + 1)) p w (bj_P (bj_gX p q) L (64 * b + 8 * u + 8))) :
    ∀ d v : Nat, v + d = 8 → wX_storeBlock_10 post J (nI b) (nI u) nq ni (nI q) si (d + 1) (nI v) p w (bj_P (bj_gX p q) L (64 * b + 8 * u + v)) := by
  intro d
  induction d with
  | zero =>
    intro v hv
    obtain rfl : v = 8 := by omega
    exact br_t (nI_le (a := 8) (b := 8) (by omega) (by decide)) (nm_r (nI_1 u) hJ)
  | succ d ih =>
    intro v hv
    have hv' : v < 8 := by omega
    exact br_f (nI_ge (b := 8) (by omega) (by decide)) (bx_ws hw hb hu hv' (bx_st (bx_rl (bj_2D0 h1 hq hu hv') ⟨pk_in (64 * b + 8 * u + v) 256 (by omega) (bj_ix2 b u v), nm_r (bj_P_w (bj_ix2 b u v) (by omega) (bj_gX_at hu hv')) (nm_r (nI_1 v) (ih (v + 1) (by omega)))⟩)))
theorem bx_sb_out {post : SX → Prop} {q b : Nat} (hw : bj_Ww w) (h1 : 1 ≤ q) (hq : q ≤ 8) (hb : b < 4) (k : post (nq, ni, nI q, si, p, w, bj_P (bj_gX p q) L (64 * (b + 1)))) :
    ∀ d u : Nat, u + d = 8 → wX_storeBlock_2 post (nI b) nq ni (nI q) si (d + 1) (nI u) p w (bj_P (bj_gX p q) L (64 * b + 8 * u)) := by
  intro d
  induction d with
  | zero =>
    intro u hu
    obtain rfl : u = 8 := by omega
    exact br_t (nI_le (a := 8) (b := 8) (by omega) (by decide)) k
  | succ d ih =>
    intro u hu
    have hJ := ih (u + 1) (by omega)
    rw [show 64 * b + 8 * (u + 1) = 64 * b + 8 * u + 8 from by omega] at hJ
    exact br_f (nI_ge (b := 8) (by omega) (by decide)) ⟨8 + 1, bx_sb_in hw h1 hq hb (by omega) hJ 8 0 rfl⟩
theorem bx_sb {post : SX → Prop} {q b : Nat} (hw : bj_Ww w) (h1 : 1 ≤ q) (hq : q ≤ 8) (hb : b < 4) (k : post (nq, ni, nI q, si, p, w, bj_P (bj_gX p q) L (64 * (b + 1)))) : wpX_storeBlock post (nq, ni, nI q, si, p, w, bj_P (bj_gX p q) L (64 * b)) (nI b) :=
  ⟨8 + 1, bx_sb_out hw h1 hq hb k 8 0 rfl⟩
theorem bx_store_lp {post : Int32 → SX → Prop} {q : Nat} (hw : bj_Ww w) (h1 : 1 ≤ q) (hq : q ≤ 8) (k : post (bj_s (fun b => bj_n (bj_gX p q) b) 4) (nq, ni, nI q, si, p, w, bj_P (bj_gX p q) L 256)) :
    ∀ d b : Nat, b + d = 4 → wX_store_20 post (d + 1) (bj_s (fun b => bj_n (bj_gX p q) b) b) (nI b) nq ni (nI q) si p w (bj_P (bj_gX p q) L (64 * b)) := by
  intro d
  induction d with
  | zero =>
    intro b hb
    obtain rfl : b = 4 := by omega
    exact br_t (nI_le (a := 4) (b := 4) (by omega) (by decide)) k
  | succ d ih =>
    intro b hb
    have e : bj_s (fun b => bj_n (bj_gX p q) b) b + bj_n (bj_P (bj_gX p q) L (64 * (b + 1))) b = bj_s (fun b => bj_n (bj_gX p q) b) (b + 1) := by
      rw [bj_n_cg (c := bj_gX p q) b (fun k hk => bj_P_lt (by omega))]
      rfl
    exact br_f (nI_ge (b := 4) (by omega) (by decide)) (bx_sb hw h1 hq (by omega) (bx_cn (by omega) (nm_r e (nm_r (nI_1 b) (ih (b + 1) (by omega))))))
theorem by_lv_in {post : Int32 → Prop} {J : Int32 → Int32 → Prop} {b u v j : Nat} {A : Int32} (hb : b < 4) (hu : u < 8) (hv : v < 8) (hj : j < 8)
    (hJ : J (A + bj_s (bj_g p b u v j) 8) (nI (j + 1))) :
    ∀ d i : Nat, i + d = 8 → wY_levelOf_32 post J (nI u) (nI v) (nI (128 * (b / 2) + 8 * (b % 2))) (nI j) nq ni sq si p M (d + 1) (A + bj_s (bj_g p b u v j) i) (nI i) := by
  intro d
  induction d with
  | zero =>
    intro i hi
    obtain rfl : i = 8 := by omega
    exact br_t (nI_le (a := 8) (b := 8) (by omega) (by decide)) (nm_r (nI_1 j) hJ)
  | succ d ih =>
    intro i hi
    have e : A + bj_s (bj_g p b u v j) i + (p (nI (128 * (b / 2) + 8 * (b % 2)) + (16 : Int32) * nI j + nI i).toNatClampNeg - 128) * bj_K u i * bj_K v j = A + bj_s (bj_g p b u v j) (i + 1) := by
      rw [bj_rd_at (a := p) (bj_ix6 (128 * (b / 2) + 8 * (b % 2)) j i) (by omega), Int32.add_assoc]
      rfl
    exact br_f (nI_ge (b := 8) (by omega) (by decide)) (by_k hu (by omega) (by_k hv hj ⟨pk_in (128 * (b / 2) + 8 * (b % 2) + 16 * j + i) 256 (by omega) (bj_ix6 _ j i), nm_r e (nm_r (nI_1 i) (ih (i + 1) (by omega)))⟩))
theorem by_lv_out {post : Int32 → Prop} {q b u v : Nat} (h1 : 1 ≤ q) (hq : q ≤ 8) (hb : b < 4) (hu : u < 8) (hv : v < 8) (k : post (bj_lv p q b u v)) :
    ∀ d j : Nat, j + d = 8 → wY_levelOf_22 post (nI u) (nI v) (nI (128 * (b / 2) + 8 * (b % 2))) nq ni (nI q) si p M (d + 1) (bj_s (fun j => bj_s (bj_g p b u v j) 8) j) (nI j) := by
  intro d
  induction d with
  | zero =>
    intro j hj
    obtain rfl : j = 8 := by omega
    exact br_t (nI_le (a := 8) (b := 8) (by omega) (by decide)) (by_st (by_rl (bj_2D0 h1 hq hu hv) k))
  | succ d ih =>
    intro j hj
    have h := by_lv_in (post := post) (nq := nq) (ni := ni) (sq := nI q) (si := si) (M := M) hb hu hv (show j < 8 by omega) (ih (j + 1) (by omega)) 8 0 rfl
    rw [bj_s0] at h
    exact br_f (nI_ge (b := 8) (by omega) (by decide)) ⟨8 + 1, h⟩
theorem by_lv {post : Int32 → Prop} {q b u v : Nat} (h1 : 1 ≤ q) (hq : q ≤ 8) (hb : b < 4) (hu : u < 8) (hv : v < 8) (k : post (bj_lv p q b u v)) : wpY_levelOf post (nq, ni, nI q, si, p, M) (nI b) (nI u) (nI v) := by
  have e : (128 : Int32) * (nI b / 2) + (8 : Int32) * (nI b - nI b / 2 * 2) = nI (128 * (b / 2) + 8 * (b % 2)) := by
    rw [bj_m2 (by omega), bj_d2 (by omega)]
    exact bj_ix7 _ _
  exact ⟨by decide, by decide, nm_r e ⟨8 + 1, by_lv_out h1 hq hb hu hv k 8 0 rfl⟩⟩
theorem by_store_lp {post : Int32 → SY → Prop} {q : Nat} (h1 : 1 ≤ q) (hq : q ≤ 8) (k : post (bj_n (bj_gY p q) 0 + bj_n (bj_gY p q) 1 + bj_n (bj_gY p q) 2 + bj_n (bj_gY p q) 3) (nq, ni, nI q, si, p, bj_P (bj_gY p q) M 256)) :
    ∀ d n : Nat, n + d = 256 → wY_store_18 post nq ni (nI q) si (d + 1) (nI n) p (bj_P (bj_gY p q) M n) := by
  intro d
  induction d with
  | zero =>
    intro n hn
    obtain rfl : n = 256 := by omega
    have e : ∀ b, b < 4 → bj_n (bj_P (bj_gY p q) M 256) b = bj_n (bj_gY p q) b := fun b hb => bj_n_cg b (fun k hk => bj_P_lt (by omega))
    refine br_t (nI_le (a := 256) (b := 256) (by omega) (by decide)) (by_cn (b := 0) (by decide) (by_cn (b := 1) (by decide) (by_cn (b := 2) (by decide) (by_cn (b := 3) (by decide) ?_))))
    rw [e 0 (by decide), e 1 (by decide), e 2 (by decide), e 3 (by decide)]
    exact k
  | succ d ih =>
    intro n hn
    refine br_f (nI_ge (b := 256) (by omega) (by decide)) ?_
    rw [bj_r6 (by omega), bj_a7 (by omega), bj_r3 (by omega), bj_a7 (n := n / 8) (by omega)]
    exact by_lv h1 hq (by omega) (by omega) (by omega) ⟨pk_in n 256 (by omega) rfl, nm_r (bj_P_w rfl (by omega) rfl) (nm_r (nI_1 n) (ih (n + 1) (by omega)))⟩
/-! lose -/
theorem bx_cl_lp {post : SX → Prop} {G : Nat → Int32} {b : Nat} (hb : b < 4) (hG : ∀ i, i < 64 → G (64 * b + i) = 0) (k : post (nq, ni, sq, si, p, w, bj_P G L (64 * (b + 1)))) :
    ∀ d i : Nat, i + d = 64 → wX_clearLevels_2 post (nI b) nq ni sq si (d + 1) (nI i) p w (bj_P G L (64 * b + i)) := by
  intro d
  induction d with
  | zero =>
    intro i hi
    obtain rfl : i = 64 := by omega
    exact br_t (nI_le (a := 64) (b := 64) (by omega) (by decide)) k
  | succ d ih =>
    intro i hi
    exact br_f (nI_ge (b := 64) (by omega) (by decide)) ⟨pk_in (64 * b + i) 256 (by omega) (bj_ix4 b i), nm_r (bj_P_w (bj_ix4 b i) (by omega) (hG i (by omega)).symm) (nm_r (nI_1 i) (ih (i + 1) (by omega)))⟩
theorem bx_clr {post : SX → Prop} {G : Nat → Int32} {b : Nat} (hb : b < 4) (hG : ∀ i, i < 64 → G (64 * b + i) = 0) (k : post (nq, ni, sq, si, p, w, bj_P G L (64 * (b + 1)))) : wpX_clearLevels post (nq, ni, sq, si, p, w, bj_P G L (64 * b)) (nI b) :=
  ⟨64 + 1, bx_cl_lp hb hG k 64 0 rfl⟩
theorem bx_lose_lp {post : Int32 → SX → Prop} {r b : Nat} (h1 : 1 ≤ r) (hr : r ≤ 4) (hb : b < 4) (k : post (bj_s (fun o => if o / r = b / r then bj_n L o else 0) 4) (nq, ni, sq, nI r, p, w, bj_P (bj_lo L r b) L 256)) :
    ∀ d o : Nat, o + d = 4 → wX_lose_22 post (nI (b / r)) (d + 1) (bj_s (fun o => if o / r = b / r then bj_n L o else 0) o) (nI o) nq ni sq (nI r) p w (bj_P (bj_lo L r b) L (64 * o)) := by
  intro d
  induction d with
  | zero =>
    intro o ho
    obtain rfl : o = 4 := by omega
    exact br_t (nI_le (a := 4) (b := 4) (by omega) (by decide)) k
  | succ d ih =>
    intro o ho
    have l1 : o / r ≤ o := Nat.div_le_self _ _
    have l2 : b / r ≤ b := Nat.div_le_self _ _
    refine br_f (nI_ge (b := 4) (by omega) (by decide)) ⟨nI_ne0 (by omega) (by omega), pk_eq (o / r) (b / r) (fun h => ?_) (fun h => ?_) (pk_div (by omega) (by omega) (by omega))⟩
    · have e : bj_s (fun o => if o / r = b / r then bj_n L o else 0) o + bj_n (bj_P (bj_lo L r b) L (64 * o)) o = bj_s (fun o => if o / r = b / r then bj_n L o else 0) (o + 1) := by
        rw [bj_n_cg (c := L) o (fun k hk => bj_P_ge (by omega))]
        show _ = bj_s (fun o => if o / r = b / r then bj_n L o else 0) o + (if o / r = b / r then bj_n L o else 0)
        rw [if_pos h]
      exact bx_cn (by omega) (nm_r e (bx_clr (by omega) (fun i hi => if_pos (by rw [show (64 * o + i) / 64 = o from by omega]; exact h)) (nm_r (nI_1 o) (ih (o + 1) (by omega)))))
    · have e : bj_s (fun o => if o / r = b / r then bj_n L o else 0) o = bj_s (fun o => if o / r = b / r then bj_n L o else 0) (o + 1) := by
        show _ = bj_s (fun o => if o / r = b / r then bj_n L o else 0) o + (if o / r = b / r then bj_n L o else 0)
        rw [if_neg h, Int32.add_zero]
      have e2 : bj_P (bj_lo L r b) L (64 * o) = bj_P (bj_lo L r b) L (64 * (o + 1)) := bj_P_sk (by omega) (fun m h3 h4 => if_neg (by rw [show m / 64 = o from by omega]; exact h))
      rw [e, e2]
      exact nm_r (nI_1 o) (ih (o + 1) (by omega))
theorem by_lose_lp {post : Int32 → SY → Prop} {r b : Nat} (h1 : 1 ≤ r) (hr : r ≤ 4) (hb : b < 4) (k : post (bj_s (fun n => if n / 64 / r = b / r then bj_i (M n) else 0) 256) (nq, ni, sq, nI r, p, bj_P (bj_lo M r b) M 256)) :
    ∀ d n : Nat, n + d = 256 → wY_lose_16 post (nI b) nq ni sq (nI r) (d + 1) (bj_s (fun n => if n / 64 / r = b / r then bj_i (M n) else 0) n) (nI n) p (bj_P (bj_lo M r b) M n) := by
  intro d
  induction d with
  | zero =>
    intro n hn
    obtain rfl : n = 256 := by omega
    exact br_t (nI_le (a := 256) (b := 256) (by omega) (by decide)) k
  | succ d ih =>
    intro n hn
    have l1 : n / 64 / r ≤ n / 64 := Nat.div_le_self _ _
    have l2 : b / r ≤ b := Nat.div_le_self _ _
    have e1 : nI n >>> ((6 : Int32) &&& 31) / nI r = nI (n / 64 / r) := by
      rw [bj_r6 (by omega)]
      exact pk_div (by omega) (by omega) (by omega)
    have e2 : nI b / nI r = nI (b / r) := pk_div (by omega) (by omega) (by omega)
    have eM : (bj_P (bj_lo M r b) M n) (nI n).toNatClampNeg = M n := by
      rw [nI_clamp (by omega)]
      exact bj_P_ge (Nat.le_refl n)
    refine br_f (nI_ge (b := 256) (by omega) (by decide)) ⟨nI_ne0 (by omega) (by omega), nI_ne0 (by omega) (by omega), pk_eq (n / 64 / r) (b / r) (fun h => ⟨pk_in n 256 (by omega) rfl, br_c (fun z => ?_) (fun z => ?_)⟩) (fun h => ?_) e1 e2⟩
    · rw [eM] at z
      have e : bj_s (fun n => if n / 64 / r = b / r then bj_i (M n) else 0) n = bj_s (fun n => if n / 64 / r = b / r then bj_i (M n) else 0) (n + 1) := by
        show _ = bj_s (fun n => if n / 64 / r = b / r then bj_i (M n) else 0) n + (if n / 64 / r = b / r then bj_i (M n) else 0)
        rw [if_pos h, bj_i, if_pos z, Int32.add_zero]
      have e3 : bj_P (bj_lo M r b) M n = bj_P (bj_lo M r b) M (n + 1) := bj_P_sk (by omega) (fun m h3 h4 => by
        obtain rfl : m = n := by omega
        exact (if_pos h).trans z.symm)
      rw [e, e3]
      exact nm_r (nI_1 n) (ih (n + 1) (by omega))
    · rw [eM] at z
      have e : bj_s (fun n => if n / 64 / r = b / r then bj_i (M n) else 0) n + 1 = bj_s (fun n => if n / 64 / r = b / r then bj_i (M n) else 0) (n + 1) := by
        show _ = bj_s (fun n => if n / 64 / r = b / r then bj_i (M n) else 0) n + (if n / 64 / r = b / r then bj_i (M n) else 0)
        rw [if_pos h, bj_i, if_neg z]
      exact ⟨pk_in n 256 (by omega) rfl, nm_r (bj_P_w rfl (by omega) (if_pos h).symm) (nm_r e (nm_r (nI_1 n) (ih (n + 1) (by omega))))⟩
    · have e : bj_s (fun n => if n / 64 / r = b / r then bj_i (M n) else 0) n = bj_s (fun n => if n / 64 / r = b / r then bj_i (M n) else 0) (n + 1) := by
        show _ = bj_s (fun n => if n / 64 / r = b / r then bj_i (M n) else 0) n + (if n / 64 / r = b / r then bj_i (M n) else 0)
        rw [if_neg h, Int32.add_zero]
      have e3 : bj_P (bj_lo M r b) M n = bj_P (bj_lo M r b) M (n + 1) := bj_P_sk (by omega) (fun m h3 h4 => by
        obtain rfl : m = n := by omega
        exact if_neg h)
      rw [e, e3]
      exact nm_r (nI_1 n) (ih (n + 1) (by omega))
end
