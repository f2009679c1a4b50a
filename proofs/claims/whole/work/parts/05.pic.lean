/-! the picture: fill, ramp, weave, the constructors -/
section
variable {nq ni sq si : Int32} {p w L M : Nat → Int32}
def bj_fl (p : Nat → Int32) (x0 y0 : Nat) (g : Int32) : Nat → Int32 := fun m => if x0 ≤ m % 16 ∧ y0 ≤ m / 16 then g else p m
theorem bj_fl_at {x0 y0 x y : Nat} {g : Int32} (hx : x < 16) (h0 : x0 ≤ x) (h1 : y0 ≤ y) : g = bj_fl p x0 y0 g (16 * y + x) := by
  show g = if x0 ≤ (16 * y + x) % 16 ∧ y0 ≤ (16 * y + x) / 16 then g else p (16 * y + x)
  rw [bj_q1 hx, bj_q2 hx, if_pos ⟨h0, h1⟩]
theorem bj_fl_row {x0 y0 y : Nat} {g : Int32} (hx : x0 < 16) : bj_P (bj_fl p x0 y0 g) p (16 * y) = bj_P (bj_fl p x0 y0 g) p (16 * y + x0) :=
  bj_P_sk (by omega) (fun m h1 h2 => if_neg (fun z => absurd z.1 (by omega)))
theorem bj_fl_top {x0 y0 : Nat} {g : Int32} : p = bj_P (bj_fl p x0 y0 g) p (16 * y0) :=
  (bj_P_0 (bj_fl p x0 y0 g) p).symm.trans (bj_P_sk (by omega) (fun m h1 h2 => if_neg (fun z => absurd z.2 (by omega))))
theorem bx_fill_in {post : Int32 → SX → Prop} {J : Int32 → (Nat → Int32) → (Nat → Int32) → (Nat → Int32) → Prop} {x0 y0 y : Nat} {g : Int32} (hy : y < 16) (h1 : y0 ≤ y)
    (hJ : J (nI (y + 1)) (bj_P (bj_fl p x0 y0 g) p (16 * (y + 1))) w L) :
    ∀ d x : Nat, x + d = 16 → x0 ≤ x → wX_fill_31 post J (nI x0) g (nI y) nq ni sq si (d + 1) (nI x) (bj_P (bj_fl p x0 y0 g) p (16 * y + x)) w L := by
  intro d
  induction d with
  | zero =>
    intro x hx h0
    obtain rfl : x = 16 := by omega
    exact br_t (nI_le (a := 16) (b := 16) (by omega) (by decide)) (nm_r (nI_1 y) hJ)
  | succ d ih =>
    intro x hx h0
    exact br_f (nI_ge (b := 16) (by omega) (by decide)) ⟨pk_in (16 * y + x) 256 (by omega) (bj_ix1 y x), nm_r (bj_P_w (bj_ix1 y x) (by omega) (bj_fl_at (by omega) h0 h1)) (nm_r (nI_1 x) (ih (x + 1) (by omega) (by omega)))⟩
theorem bx_fill_out {post : Int32 → SX → Prop} {x0 y0 : Nat} {g : Int32} (hx0 : x0 < 16) (k : post 0 (nq, ni, sq, si, bj_P (bj_fl p x0 y0 g) p 256, w, L)) :
    ∀ d y : Nat, y + d = 16 → y0 ≤ y → wX_fill_21 post (nI x0) g nq ni sq si (d + 1) (nI y) (bj_P (bj_fl p x0 y0 g) p (16 * y)) w L := by
  intro d
  induction d with
  | zero =>
    intro y hy h0
    obtain rfl : y = 16 := by omega
    exact br_t (nI_le (a := 16) (b := 16) (by omega) (by decide)) k
  | succ d ih =>
    intro y hy h0
    refine br_f (nI_ge (b := 16) (by omega) (by decide)) ⟨16 - x0 + 1, ?_⟩
    rw [bj_fl_row hx0]
    exact bx_fill_in (by omega) h0 (ih (y + 1) (by omega) (by omega)) (16 - x0) x0 (by omega) (by omega)
theorem by_fill_in {post : Int32 → SY → Prop} {J : Int32 → (Nat → Int32) → (Nat → Int32) → Prop} {x0 y0 y : Nat} {g : Int32} (hy : y < 16) (h1 : y0 ≤ y)
    (hJ : J (nI (y + 1)) (bj_P (bj_fl p x0 y0 g) p (16 * (y + 1))) M) :
    ∀ d x : Nat, x + d = 16 → x0 ≤ x → wY_fill_33 post J (nI x0) g (nI y) nq ni sq si (d + 1) (nI x) (bj_P (bj_fl p x0 y0 g) p (16 * y + x)) M := by
  intro d
  induction d with
  | zero =>
    intro x hx h0
    obtain rfl : x = 16 := by omega
    exact br_t (nI_le (a := 16) (b := 16) (by omega) (by decide)) (nm_r (nI_1 y) hJ)
  | succ d ih =>
    intro x hx h0
    exact br_f (nI_ge (b := 16) (by omega) (by decide)) ⟨pk_in (16 * y + x) 256 (by omega) (bj_ix1 y x), nm_r (bj_P_w (bj_ix1 y x) (by omega) (bj_fl_at (by omega) h0 h1)) (nm_r (nI_1 x) (ih (x + 1) (by omega) (by omega)))⟩
theorem by_fill_out {post : Int32 → SY → Prop} {x0 y0 : Nat} {g : Int32} (hx0 : x0 < 16) (k : post 0 (nq, ni, sq, si, bj_P (bj_fl p x0 y0 g) p 256, M)) :
    ∀ d y : Nat, y + d = 16 → y0 ≤ y → wY_fill_23 post (nI x0) g nq ni sq si (d + 1) (nI y) (bj_P (bj_fl p x0 y0 g) p (16 * y)) M := by
  intro d
  induction d with
  | zero =>
    intro y hy h0
    obtain rfl : y = 16 := by omega
    exact br_t (nI_le (a := 16) (b := 16) (by omega) (by decide)) k
  | succ d ih =>
    intro y hy h0
    refine br_f (nI_ge (b := 16) (by omega) (by decide)) ⟨16 - x0 + 1, ?_⟩
    rw [bj_fl_row hx0]
    exact by_fill_in (by omega) h0 (ih (y + 1) (by omega) (by omega)) (16 - x0) x0 (by omega) (by omega)
/-! ramp -/
def bj_rp (c a b : Int32) : Nat → Int32 := fun m => bj_cl (c + a * nI (m % 16) + b * nI (m / 16))
theorem bj_rp_at {c a b : Int32} {x y : Nat} (hx : x < 16) : bj_cl (c + a * nI x + b * nI y) = bj_rp c a b (16 * y + x) := by
  show _ = bj_cl (c + a * nI ((16 * y + x) % 16) + b * nI ((16 * y + x) / 16))
  rw [bj_q1 hx, bj_q2 hx]
theorem bx_ramp_in {post : Int32 → SX → Prop} {J : Int32 → (Nat → Int32) → (Nat → Int32) → (Nat → Int32) → Prop} {c a b : Int32} {y : Nat} (hy : y < 16)
    (hJ : J (nI (y + 1)) (bj_P (bj_rp c a b) p (16 * (y + 1))) w L) :
    ∀ d x : Nat, x + d = 16 → wX_ramp_37 post J c a b (nI y) nq ni sq si (d + 1) (nI x) (bj_P (bj_rp c a b) p (16 * y + x)) w L := by
  intro d
  induction d with
  | zero =>
    intro x hx
    obtain rfl : x = 16 := by omega
    exact br_t (nI_le (a := 16) (b := 16) (by omega) (by decide)) (nm_r (nI_1 y) hJ)
  | succ d ih =>
    intro x hx
    exact br_f (nI_ge (b := 16) (by omega) (by decide)) (bx_ng ⟨pk_in (16 * y + x) 256 (by omega) (bj_ix1 y x), nm_r (bj_P_w (bj_ix1 y x) (by omega) (bj_rp_at (by omega))) (nm_r (nI_1 x) (ih (x + 1) (by omega)))⟩)
theorem bx_ramp_out {post : Int32 → SX → Prop} {c a b : Int32} (k : post 0 (nq, ni, sq, si, bj_P (bj_rp c a b) p 256, w, L)) :
    ∀ d y : Nat, y + d = 16 → wX_ramp_27 post c a b nq ni sq si (d + 1) (nI y) (bj_P (bj_rp c a b) p (16 * y)) w L := by
  intro d
  induction d with
  | zero =>
    intro y hy
    obtain rfl : y = 16 := by omega
    exact br_t (nI_le (a := 16) (b := 16) (by omega) (by decide)) k
  | succ d ih =>
    intro y hy
    exact br_f (nI_ge (b := 16) (by omega) (by decide)) ⟨16 + 1, bx_ramp_in (by omega) (ih (y + 1) (by omega)) 16 0 rfl⟩
theorem by_ramp {post : Int32 → SY → Prop} {c a b : Int32} (k : post 0 (nq, ni, sq, si, bj_P (bj_rp c a b) p 256, M)) :
    ∀ d n : Nat, n + d = 256 → wY_ramp_38 post c a b nq ni sq si (d + 1) (nI n) (bj_P (bj_rp c a b) p n) M := by
  intro d
  induction d with
  | zero =>
    intro n hn
    obtain rfl : n = 256 := by omega
    exact br_t (nI_le (a := 256) (b := 256) (by omega) (by decide)) k
  | succ d ih =>
    intro n hn
    refine br_f (nI_ge (b := 256) (by omega) (by decide)) (by_ng ⟨pk_in n 256 (by omega) rfl, nm_r (bj_P_w rfl (by omega) ?_) (nm_r (nI_1 n) (ih (n + 1) (by omega)))⟩)
    rw [bj_a15 (by omega), bj_r4 (by omega)]
    rfl
/-! weave -/
def bj_wv (p : Nat → Int32) (s : Nat) : Nat → Int32 := fun m => if (m % 16 / 2 ^ s + m / 16 / 2 ^ s) % 2 = 1 then 255 - p m else p m
theorem bj_wv_c {x y s : Nat} (hx : x < 16) (hy : y < 16) (hs : s < 4) : ((nI x >>> (nI s &&& 31)) + (nI y >>> (nI s &&& 31))) &&& 1 = nI ((x / 2 ^ s + y / 2 ^ s) % 2) := by
  have h1 : x / 2 ^ s ≤ x := Nat.div_le_self _ _
  have h2 : y / 2 ^ s ≤ y := Nat.div_le_self _ _
  rw [bj_rs (by omega) hs, bj_rs (by omega) hs, nI_add, bj_a1 (by omega)]
theorem bj_wv_d {n s : Nat} (hn : n < 256) (hs : s < 4) : (((nI n &&& 15) >>> (nI s &&& 31)) &&& 1) + (((nI n >>> ((4 : Int32) &&& 31)) >>> (nI s &&& 31)) &&& 1) = nI (n % 16 / 2 ^ s % 2 + n / 16 / 2 ^ s % 2) := by
  have h1 : n % 16 / 2 ^ s ≤ n % 16 := Nat.div_le_self _ _
  have h2 : n / 16 / 2 ^ s ≤ n / 16 := Nat.div_le_self _ _
  rw [bj_a15 hn, bj_r4 hn, bj_rs (by omega) hs, bj_rs (by omega) hs, bj_a1 (by omega), bj_a1 (by omega), nI_add]
theorem bj_wv_t {n s : Nat} (h : (n % 16 / 2 ^ s + n / 16 / 2 ^ s) % 2 = 1) : 255 - p n = bj_wv p s n := (if_pos h).symm
theorem bj_wv_f {n s : Nat} (h : ¬ (n % 16 / 2 ^ s + n / 16 / 2 ^ s) % 2 = 1) : bj_P (bj_wv p s) p n = bj_P (bj_wv p s) p (n + 1) :=
  bj_P_sk (by omega) (fun m h1 h2 => by
    obtain rfl : m = n := by omega
    exact if_neg h)
theorem bj_wv_r {n s : Nat} {i : Int32} (hi : i = nI n) (hn : n < 256) (h : (n % 16 / 2 ^ s + n / 16 / 2 ^ s) % 2 = 1) : 255 - (bj_P (bj_wv p s) p n) i.toNatClampNeg = bj_wv p s n := by
  rw [bj_rd_at (a := bj_P (bj_wv p s) p n) hi (by omega), bj_P_ge (Nat.le_refl n)]
  exact bj_wv_t h
theorem bx_weave_in {post : Int32 → SX → Prop} {J : Int32 → (Nat → Int32) → (Nat → Int32) → (Nat → Int32) → Prop} {s y : Nat} (hs : s < 4) (hy : y < 16)
    (hJ : J (nI (y + 1)) (bj_P (bj_wv p s) p (16 * (y + 1))) w L) :
    ∀ d x : Nat, x + d = 16 → wX_weave_22 post J (nI s) (nI y) nq ni sq si (d + 1) (nI x) (bj_P (bj_wv p s) p (16 * y + x)) w L := by
  intro d
  induction d with
  | zero =>
    intro x hx
    obtain rfl : x = 16 := by omega
    exact br_t (nI_le (a := 16) (b := 16) (by omega) (by decide)) (nm_r (nI_1 y) hJ)
  | succ d ih =>
    intro x hx
    have hx' : x < 16 := by omega
    refine br_f (nI_ge (b := 16) (by omega) (by decide)) (pk_eq ((x / 2 ^ s + y / 2 ^ s) % 2) 1 (fun h => ?_) (fun h => ?_) (bj_wv_c hx' hy hs))
    · have h' : ((16 * y + x) % 16 / 2 ^ s + (16 * y + x) / 16 / 2 ^ s) % 2 = 1 := by rw [bj_q1 hx', bj_q2 hx']; exact h
      exact ⟨pk_in (16 * y + x) 256 (by omega) (bj_ix1 y x), pk_in (16 * y + x) 256 (by omega) (bj_ix1 y x), nm_r (bj_P_w (bj_ix1 y x) (by omega) (bj_wv_r (bj_ix1 y x) (by omega) h')) (nm_r (nI_1 x) (ih (x + 1) (by omega)))⟩
    · have h' : ¬ ((16 * y + x) % 16 / 2 ^ s + (16 * y + x) / 16 / 2 ^ s) % 2 = 1 := by rw [bj_q1 hx', bj_q2 hx']; exact h
      rw [bj_wv_f h']
      exact nm_r (nI_1 x) (ih (x + 1) (by omega))
theorem bx_weave_out {post : Int32 → SX → Prop} {s : Nat} (hs : s < 4) (k : post 0 (nq, ni, sq, si, bj_P (bj_wv p s) p 256, w, L)) :
    ∀ d y : Nat, y + d = 16 → wX_weave_14 post (nI s) nq ni sq si (d + 1) (nI y) (bj_P (bj_wv p s) p (16 * y)) w L := by
  intro d
  induction d with
  | zero =>
    intro y hy
    obtain rfl : y = 16 := by omega
    exact br_t (nI_le (a := 16) (b := 16) (by omega) (by decide)) k
  | succ d ih =>
    intro y hy
    exact br_f (nI_ge (b := 16) (by omega) (by decide)) ⟨16 + 1, bx_weave_in hs (by omega) (ih (y + 1) (by omega)) 16 0 rfl⟩
theorem by_weave {post : Int32 → SY → Prop} {s : Nat} (hs : s < 4) (k : post 0 (nq, ni, sq, si, bj_P (bj_wv p s) p 256, M)) :
    ∀ d n : Nat, n + d = 256 → wY_weave_14 post (nI s) nq ni sq si (d + 1) (nI n) (bj_P (bj_wv p s) p n) M := by
  intro d
  induction d with
  | zero =>
    intro n hn
    obtain rfl : n = 256 := by omega
    exact br_t (nI_le (a := 256) (b := 256) (by omega) (by decide)) k
  | succ d ih =>
    intro n hn
    refine br_f (nI_ge (b := 256) (by omega) (by decide)) (nm_r (bj_wv_d (by omega) hs) (pk_eq (n % 16 / 2 ^ s % 2 + n / 16 / 2 ^ s % 2) 1 (fun h => ?_) (fun h => ?_)))
    · have h' : (n % 16 / 2 ^ s + n / 16 / 2 ^ s) % 2 = 1 := by omega
      exact ⟨pk_in n 256 (by omega) rfl, pk_in n 256 (by omega) rfl, nm_r (bj_P_w rfl (by omega) (bj_wv_r rfl (by omega) h')) (nm_r (nI_1 n) (ih (n + 1) (by omega)))⟩
    · have h' : ¬ (n % 16 / 2 ^ s + n / 16 / 2 ^ s) % 2 = 1 := by omega
      rw [bj_wv_f h']
      exact nm_r (nI_1 n) (ih (n + 1) (by omega))
/-! the constructors -/
def bj_kt : Nat → Int32 := fun m => bj_K (m / 8) (m % 8)
theorem bj_kt_at {u i : Nat} (hi : i < 8) : bj_C ((2 * i + 1) * u % 32) = bj_kt (8 * u + i) := by
  show bj_K u i = bj_K ((8 * u + i) / 8) ((8 * u + i) % 8)
  rw [show (8 * u + i) / 8 = u from by omega, show (8 * u + i) % 8 = i from by omega]
theorem bx_init_in {post : SX → Prop} {J : Int32 → (Nat → Int32) → (Nat → Int32) → (Nat → Int32) → Prop} {u : Nat} (hu : u < 8) (hJ : J (nI (u + 1)) p (bj_P bj_kt w (8 * (u + 1))) L) :
    ∀ d i : Nat, i + d = 8 → wX_init_84 post J (nI u) nq ni sq si (d + 1) (nI i) p (bj_P bj_kt w (8 * u + i)) L := by
  intro d
  induction d with
  | zero =>
    intro i hi
    obtain rfl : i = 8 := by omega
    exact br_t (nI_le (a := 8) (b := 8) (by omega) (by decide)) (nm_r (nI_1 u) hJ)
  | succ d ih =>
    intro i hi
    refine br_f (nI_ge (b := 8) (by omega) (by decide)) ⟨by decide, ?_⟩
    rw [bj_t_eq hu (by omega)]
    exact bx_wa (Nat.mod_lt _ (by decide)) ⟨pk_in (8 * u + i) 64 (by omega) (bj_ix3 u i), nm_r (bj_P_w (bj_ix3 u i) (by omega) (bj_kt_at (by omega))) (nm_r (nI_1 i) (ih (i + 1) (by omega)))⟩
theorem bx_init_mid {post : SX → Prop} (k : post (nq, ni, sq, si, p, bj_P bj_kt w 64, L)) :
    ∀ d u : Nat, u + d = 8 → wX_init_76 post nq ni sq si (d + 1) (nI u) p (bj_P bj_kt w (8 * u)) L := by
  intro d
  induction d with
  | zero =>
    intro u hu
    obtain rfl : u = 8 := by omega
    exact br_t (nI_le (a := 8) (b := 8) (by omega) (by decide)) k
  | succ d ih =>
    intro u hu
    exact br_f (nI_ge (b := 8) (by omega) (by decide)) ⟨8 + 1, bx_init_in (by omega) (ih (u + 1) (by omega)) 8 0 rfl⟩
theorem bx_init_out {post : SX → Prop} (k : post (nq, ni, sq, si, bj_P (fun _ => 128) p 256, bj_P bj_kt w 64, L)) :
    ∀ d n : Nat, n + d = 256 → wX_init_52 post nq ni sq si (d + 1) (nI n) (bj_P (fun _ => 128) p n) w L := by
  intro d
  induction d with
  | zero =>
    intro n hn
    obtain rfl : n = 256 := by omega
    have h := bx_init_mid k 8 0 rfl
    rw [Nat.mul_zero, bj_P_0] at h
    exact br_t (nI_le (a := 256) (b := 256) (by omega) (by decide)) ⟨8 + 1, h⟩
  | succ d ih =>
    intro n hn
    exact br_f (nI_ge (b := 256) (by omega) (by decide)) ⟨pk_in n 256 (by omega) rfl, nm_r (bj_P_w rfl (by omega) rfl) (nm_r (nI_1 n) (ih (n + 1) (by omega)))⟩
theorem by_init {post : SY → Prop} (k : post (1, 4, 1, 4, bj_P (fun _ => 128) p 256, M)) :
    ∀ d n : Nat, n + d = 256 → wY_init_24 post nq ni sq si (d + 1) (nI n) (bj_P (fun _ => 128) p n) M := by
  intro d
  induction d with
  | zero =>
    intro n hn
    obtain rfl : n = 256 := by omega
    exact br_t (nI_le (a := 256) (b := 256) (by omega) (by decide)) k
  | succ d ih =>
    intro n hn
    exact br_f (nI_ge (b := 256) (by omega) (by decide)) ⟨pk_in n 256 (by omega) rfl, nm_r (bj_P_w rfl (by omega) rfl) (nm_r (nI_1 n) (ih (n + 1) (by omega)))⟩
end
