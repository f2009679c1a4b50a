/-! indices, shifts, masks; arrays that are written from the left -/
theorem bj_ix1 (y x : Nat) : (16 : Int32) * nI y + nI x = nI (16 * y + x) := by
  show nI 16 * nI y + nI x = _
  rw [pk_mul, nI_add]
theorem bj_ix3 (u i : Nat) : (8 : Int32) * nI u + nI i = nI (8 * u + i) := by
  show nI 8 * nI u + nI i = _
  rw [pk_mul, nI_add]
theorem bj_ix4 (b k : Nat) : (64 : Int32) * nI b + nI k = nI (64 * b + k) := by
  show nI 64 * nI b + nI k = _
  rw [pk_mul, nI_add]
theorem bj_ix2 (b u v : Nat) : (64 : Int32) * nI b + (8 : Int32) * nI u + nI v = nI (64 * b + 8 * u + v) := by
  show nI 64 * nI b + nI 8 * nI u + nI v = _
  rw [pk_mul, pk_mul, nI_add, nI_add]
theorem bj_ix5 (t j l i : Nat) : (16 : Int32) * (nI t + nI j) + nI l + nI i = nI (16 * (t + j) + l + i) := by
  show nI 16 * (nI t + nI j) + nI l + nI i = _
  rw [nI_add, pk_mul, nI_add, nI_add]
theorem bj_ix6 (c j i : Nat) : nI c + (16 : Int32) * nI j + nI i = nI (c + 16 * j + i) := by
  show nI c + nI 16 * nI j + nI i = _
  rw [pk_mul, nI_add, nI_add]
theorem bj_ix7 (a b : Nat) : (128 : Int32) * nI a + (8 : Int32) * nI b = nI (128 * a + 8 * b) := by
  show nI 128 * nI a + nI 8 * nI b = _
  rw [pk_mul, pk_mul, nI_add]
theorem bj_D_eq (q u v : Nat) : (8192 : Int32) * nI q * ((2 : Int32) + nI u + nI v) = nI (bj_D q u v) := by
  show nI 8192 * nI q * (nI 2 + nI u + nI v) = nI (8192 * q * (2 + u + v))
  rw [pk_mul, nI_add, nI_add, pk_mul]
theorem bj_t_eq {u i : Nat} (hu : u < 8) (hi : i < 8) : ((2 : Int32) * nI i + 1) * nI u - ((2 : Int32) * nI i + 1) * nI u / 32 * 32 = nI ((2 * i + 1) * u % 32) := by
  have e : ((2 : Int32) * nI i + 1) * nI u = nI ((2 * i + 1) * u) := by
    show (nI 2 * nI i + nI 1) * nI u = _
    rw [pk_mul, nI_add, pk_mul]
  rw [e]
  have h : (2 * i + 1) * u ≤ 15 * 7 := Nat.mul_le_mul (by omega) (by omega)
  exact pk_rem (d := 32) (by omega) (by decide) (by decide)
theorem bj_a15 {n : Nat} (h : n < 256) : nI n &&& 15 = nI (n % 16) := pk_andN (by omega) 4 (by decide)
theorem bj_a7 {n : Nat} (h : n < 256) : nI n &&& 7 = nI (n % 8) := pk_andN (by omega) 3 (by decide)
theorem bj_a1 {n : Nat} (h : n < 256) : nI n &&& 1 = nI (n % 2) := pk_andN (by omega) 1 (by decide)
theorem bj_r4 {n : Nat} (h : n < 256) : nI n >>> ((4 : Int32) &&& 31) = nI (n / 16) := pk_shrN (by omega) _ 4 (by decide)
theorem bj_r6 {n : Nat} (h : n < 256) : nI n >>> ((6 : Int32) &&& 31) = nI (n / 64) := pk_shrN (by omega) _ 6 (by decide)
theorem bj_r3 {n : Nat} (h : n < 256) : nI n >>> ((3 : Int32) &&& 31) = nI (n / 8) := pk_shrN (by omega) _ 3 (by decide)
theorem bj_sl : ∀ s, s < 4 → ((nI s &&& 31).toBitVec.smod 32).toNat = s := by decide +kernel
theorem bj_rs {n s : Nat} (h : n < 256) (hs : s < 4) : nI n >>> (nI s &&& 31) = nI (n / 2 ^ s) := pk_shrN (by omega) _ s (bj_sl s hs)
theorem bj_d8 {n : Nat} (h : n < 256) : nI n / 8 = nI (n / 8) := pk_div (d := 8) (by omega) (by decide) (by decide)
theorem bj_d2 {n : Nat} (h : n < 256) : nI n / 2 = nI (n / 2) := pk_div (d := 2) (by omega) (by decide) (by decide)
theorem bj_m8 {n : Nat} (h : n < 256) : nI n - nI n / 8 * 8 = nI (n % 8) := pk_rem (d := 8) (by omega) (by decide) (by decide)
theorem bj_m2 {n : Nat} (h : n < 256) : nI n - nI n / 2 * 2 = nI (n % 2) := pk_rem (d := 2) (by omega) (by decide) (by decide)
theorem bj_bk (x y : Nat) : (2 : Int32) * nI y + nI x = nI (2 * y + x) := by
  show nI 2 * nI y + nI x = _
  rw [pk_mul, nI_add]
/-- the first k cells are g's, the others p's -/
def bj_P (g p : Nat → Int32) (k : Nat) : Nat → Int32 := fun m => if m < k then g m else p m
theorem bj_P_0 (g p : Nat → Int32) : bj_P g p 0 = p := funext fun m => if_neg (Nat.not_lt_zero m)
theorem bj_P_lt {g p : Nat → Int32} {k m : Nat} (h : m < k) : bj_P g p k m = g m := if_pos h
theorem bj_P_ge {g p : Nat → Int32} {k m : Nat} (h : k ≤ m) : bj_P g p k m = p m := if_neg (by omega)
theorem bj_P_u {g p : Nat → Int32} {k : Nat} {x : Int32} (h : x = g k) : upd (bj_P g p k) k x = bj_P g p (k + 1) := by
  funext m
  show (if m = k then x else if m < k then g m else p m) = if m < k + 1 then g m else p m
  by_cases h1 : m = k
  · subst h1
    rw [if_pos rfl, if_pos (by omega), h]
  · rw [if_neg h1]
    by_cases h2 : m < k
    · rw [if_pos h2, if_pos (by omega)]
    · rw [if_neg h2, if_neg (by omega)]
theorem bj_P_sk {g p : Nat → Int32} {k k' : Nat} (hk : k ≤ k') (h : ∀ m, k ≤ m → m < k' → g m = p m) : bj_P g p k = bj_P g p k' := by
  funext m
  show (if m < k then g m else p m) = if m < k' then g m else p m
  by_cases h1 : m < k
  · rw [if_pos h1, if_pos (by omega)]
  · rw [if_neg h1]
    by_cases h2 : m < k'
    · rw [if_pos h2, h m (by omega) h2]
    · rw [if_neg h2]
/-- as bj_P_u, at an index that is written in ints -/
theorem bj_P_w {g p : Nat → Int32} {k : Nat} {x i : Int32} (hi : i = nI k) (hk : k < 2147483648) (h : x = g k) : upd (bj_P g p k) i.toNatClampNeg x = bj_P g p (k + 1) := by
  rw [hi, nI_clamp hk]
  exact bj_P_u h
/-- reading at an index that is written in ints -/
theorem bj_rd_at {a : Nat → Int32} {k : Nat} {i : Int32} (hi : i = nI k) (hk : k < 2147483648) : a i.toNatClampNeg = a k := by
  rw [hi, nI_clamp hk]
/-! the parts of an index -/
theorem bj_q1 {y x : Nat} (h : x < 16) : (16 * y + x) % 16 = x := by omega
theorem bj_q2 {y x : Nat} (h : x < 16) : (16 * y + x) / 16 = y := by omega
theorem bj_q3 {b u v : Nat} (hu : u < 8) (hv : v < 8) : (64 * b + 8 * u + v) / 64 = b := by omega
theorem bj_q4 {b u v : Nat} (hu : u < 8) (hv : v < 8) : (64 * b + 8 * u + v) / 8 % 8 = u := by omega
theorem bj_q5 {b u v : Nat} (hu : u < 8) (hv : v < 8) : (64 * b + 8 * u + v) % 8 = v := by omega
/-! counts over the lost blocks -/
theorem bj_lost (M : Nat → Int32) (c : Nat → Prop) [DecidablePred c] : bj_s (fun n => if c (n / 64) then bj_i (M n) else 0) 256 = bj_s (fun o => if c o then bj_n M o else 0) 4 := by
  have e : bj_s (fun n => if c (n / 64) then bj_i (M n) else 0) 256 = bj_s (fun o => bj_s (fun k => if c ((64 * o + k) / 64) then bj_i (M (64 * o + k)) else 0) 64) 4 := bj_s_ml (fun n => if c (n / 64) then bj_i (M n) else 0) 64 4
  rw [e]
  refine bj_s_cg 4 (fun o _ => ?_)
  by_cases h : c o
  · rw [if_pos h]
    refine bj_s_cg 64 (fun k hk => ?_)
    rw [show (64 * o + k) / 64 = o from by omega, if_pos h]
  · rw [if_neg h]
    refine (bj_s_cg (g := fun _ => 0) 64 (fun k hk => ?_)).trans (bj_s_z 64)
    rw [show (64 * o + k) / 64 = o from by omega, if_neg h]
/-! the relation of the levels -/
def bj_Lr (L M : Nat → Int32) : Prop := ∀ b u v, b < 4 → u < 8 → v < 8 → L (64 * b + 8 * u + v) = M (64 * b + 8 * v + u)
def bj_Mb (M : Nat → Int32) : Prop := ∀ n, (M n).toInt.natAbs ≤ 65536
def bj_Ww (w : Nat → Int32) : Prop := ∀ u i, u < 8 → i < 8 → w (8 * u + i) = bj_K u i
theorem bj_sh_x {L M : Nat → Int32} {q x y : Nat} (hL : bj_Lr L M) (hM : bj_Mb M) (hq : q ≤ 8) (hx : x < 16) (hy : y < 16) :
    bj_cl (128 + (bj_z (bj_TX L q (2 * (y / 8) + x / 8) (x % 8) (y % 8))).toInt32) = bj_sh M q x y := by
  rw [bj_TX_T q (2 * (y / 8) + x / 8) (x % 8) (y % 8) (fun u v hu hv => hL _ u v (by omega) hu hv)]
  exact bj_xy (bj_BT hM hq _ _ _)
/-! what store and lose make of the levels -/
def bj_gX (p : Nat → Int32) (q : Nat) : Nat → Int32 := fun n => bj_lv p q (n / 64) (n / 8 % 8) (n % 8)
def bj_gY (p : Nat → Int32) (q : Nat) : Nat → Int32 := fun n => bj_lv p q (n / 64) (n % 8) (n / 8 % 8)
theorem bj_gXY (p : Nat → Int32) (q b : Nat) {u v : Nat} (hu : u < 8) (hv : v < 8) : bj_gX p q (64 * b + 8 * u + v) = bj_gY p q (64 * b + 8 * v + u) := by
  show bj_lv p q ((64 * b + 8 * u + v) / 64) ((64 * b + 8 * u + v) / 8 % 8) ((64 * b + 8 * u + v) % 8) = bj_lv p q ((64 * b + 8 * v + u) / 64) ((64 * b + 8 * v + u) % 8) ((64 * b + 8 * v + u) / 8 % 8)
  rw [bj_q3 hu hv, bj_q4 hu hv, bj_q5 hu hv, bj_q3 hv hu, bj_q4 hv hu, bj_q5 hv hu]
theorem bj_st_L (p L M : Nat → Int32) (q : Nat) : bj_Lr (bj_P (bj_gX p q) L 256) (bj_P (bj_gY p q) M 256) := by
  intro b u v hb hu hv
  rw [bj_P_lt (by omega), bj_P_lt (by omega)]
  exact bj_gXY p q b hu hv
theorem bj_st_b (p : Nat → Int32) {M : Nat → Int32} {q : Nat} (h1 : 1 ≤ q) (hq : q ≤ 8) (hM : bj_Mb M) : bj_Mb (bj_P (bj_gY p q) M 256) := by
  intro n
  by_cases h : n < 256
  · rw [bj_P_lt h]
    exact bj_lv_b p _ h1 hq (Nat.mod_lt _ (by decide)) (Nat.mod_lt _ (by decide))
  · rw [bj_P_ge (by omega)]
    exact hM n
theorem bj_st_n (p : Nat → Int32) (q : Nat) : bj_s (fun b => bj_n (bj_gX p q) b) 4 = bj_n (bj_gY p q) 0 + bj_n (bj_gY p q) 1 + bj_n (bj_gY p q) 2 + bj_n (bj_gY p q) 3 := by
  show (((0 : Int32) + bj_n (bj_gX p q) 0) + bj_n (bj_gX p q) 1) + bj_n (bj_gX p q) 2 + bj_n (bj_gX p q) 3 = _
  rw [Int32.zero_add, bj_n_tr 0 (fun u v hu hv => bj_gXY p q 0 hu hv), bj_n_tr 1 (fun u v hu hv => bj_gXY p q 1 hu hv), bj_n_tr 2 (fun u v hu hv => bj_gXY p q 2 hu hv), bj_n_tr 3 (fun u v hu hv => bj_gXY p q 3 hu hv)]
/-- the levels behind lose: r the interval, b the block -/
def bj_lo (L : Nat → Int32) (r b : Nat) : Nat → Int32 := fun n => if n / 64 / r = b / r then 0 else L n
theorem bj_lo_L {L M : Nat → Int32} (r b : Nat) (h : bj_Lr L M) : bj_Lr (bj_P (bj_lo L r b) L 256) (bj_P (bj_lo M r b) M 256) := by
  intro c u v hc hu hv
  rw [bj_P_lt (by omega), bj_P_lt (by omega)]
  show (if (64 * c + 8 * u + v) / 64 / r = b / r then 0 else L (64 * c + 8 * u + v)) = if (64 * c + 8 * v + u) / 64 / r = b / r then 0 else M (64 * c + 8 * v + u)
  rw [bj_q3 hu hv, bj_q3 hv hu, h c u v hc hu hv]
theorem bj_lo_b {M : Nat → Int32} (r b : Nat) (hM : bj_Mb M) : bj_Mb (bj_P (bj_lo M r b) M 256) := by
  intro n
  by_cases h : n < 256
  · rw [bj_P_lt h]
    show (if n / 64 / r = b / r then (0 : Int32) else M n).toInt.natAbs ≤ 65536
    by_cases h2 : n / 64 / r = b / r
    · rw [if_pos h2]
      decide
    · rw [if_neg h2]
      exact hM n
  · rw [bj_P_ge (by omega)]
    exact hM n
theorem bj_lo_n {L M : Nat → Int32} (r b : Nat) (h : bj_Lr L M) : bj_s (fun o => if o / r = b / r then bj_n L o else 0) 4 = bj_s (fun n => if n / 64 / r = b / r then bj_i (M n) else 0) 256 := by
  rw [bj_lost M (fun o => o / r = b / r)]
  refine bj_s_cg 4 (fun o ho => ?_)
  rw [bj_n_tr o (fun u v hu hv => h o u v ho hu hv)]
