/-! sums, counts, waves, levels, what is shown: plain functions -/
def bj_s (f : Nat → Int32) : Nat → Int32
  | 0 => 0
  | n + 1 => bj_s f n + f n
def bj_S (f : Nat → Int64) : Nat → Int64
  | 0 => 0
  | n + 1 => bj_S f n + f n
theorem bj_s_cg {f g : Nat → Int32} : ∀ n : Nat, (∀ i, i < n → f i = g i) → bj_s f n = bj_s g n := by
  intro n
  induction n with
  | zero => intro _; rfl
  | succ n ih =>
    intro h
    show bj_s f n + f n = bj_s g n + g n
    rw [ih (fun i hi => h i (by omega)), h n (by omega)]
theorem bj_s_z : ∀ n : Nat, bj_s (fun _ => 0) n = 0 := by
  intro n
  induction n with
  | zero => rfl
  | succ n ih =>
    show bj_s (fun _ => 0) n + 0 = 0
    rw [ih, Int32.add_zero]
theorem bj_s_ad (f g : Nat → Int32) : ∀ n : Nat, bj_s (fun i => f i + g i) n = bj_s f n + bj_s g n := by
  intro n
  induction n with
  | zero => exact (Int32.add_zero 0).symm
  | succ n ih =>
    show bj_s (fun i => f i + g i) n + (f n + g n) = (bj_s f n + f n) + (bj_s g n + g n)
    rw [ih]
    grind
theorem bj_s_sw (f : Nat → Nat → Int32) (m : Nat) : ∀ n : Nat, bj_s (fun i => bj_s (fun j => f i j) m) n = bj_s (fun j => bj_s (fun i => f i j) n) m := by
  intro n
  induction n with
  | zero => exact (bj_s_z m).symm
  | succ n ih =>
    show bj_s (fun i => bj_s (fun j => f i j) m) n + bj_s (fun j => f n j) m = bj_s (fun j => bj_s (fun i => f i j) n + f n j) m
    rw [ih]
    exact (bj_s_ad (fun j => bj_s (fun i => f i j) n) (fun j => f n j) m).symm
theorem bj_s_ap (f : Nat → Int32) (a : Nat) : ∀ b : Nat, bj_s f (a + b) = bj_s f a + bj_s (fun i => f (a + i)) b := by
  intro b
  induction b with
  | zero => exact (Int32.add_zero _).symm
  | succ b ih =>
    show bj_s f (a + b) + f (a + b) = bj_s f a + (bj_s (fun i => f (a + i)) b + f (a + b))
    rw [ih, Int32.add_assoc]
theorem bj_s_ml (f : Nat → Int32) (c : Nat) : ∀ m : Nat, bj_s f (c * m) = bj_s (fun o => bj_s (fun k => f (c * o + k)) c) m := by
  intro m
  induction m with
  | zero => rfl
  | succ m ih =>
    show bj_s f (c * m + c) = bj_s (fun o => bj_s (fun k => f (c * o + k)) c) m + bj_s (fun k => f (c * m + k)) c
    rw [bj_s_ap, ih]
theorem bj_S_cg {f g : Nat → Int64} : ∀ n : Nat, (∀ i, i < n → f i = g i) → bj_S f n = bj_S g n := by
  intro n
  induction n with
  | zero => intro _; rfl
  | succ n ih =>
    intro h
    show bj_S f n + f n = bj_S g n + g n
    rw [ih (fun i hi => h i (by omega)), h n (by omega)]
theorem bj_S_z : ∀ n : Nat, bj_S (fun _ => 0) n = 0 := by
  intro n
  induction n with
  | zero => rfl
  | succ n ih =>
    show bj_S (fun _ => 0) n + 0 = 0
    rw [ih, Int64.add_zero]
theorem bj_S_ad (f g : Nat → Int64) : ∀ n : Nat, bj_S (fun i => f i + g i) n = bj_S f n + bj_S g n := by
  intro n
  induction n with
  | zero => exact (Int64.add_zero 0).symm
  | succ n ih =>
    show bj_S (fun i => f i + g i) n + (f n + g n) = (bj_S f n + f n) + (bj_S g n + g n)
    rw [ih]
    grind
theorem bj_S_sw (f : Nat → Nat → Int64) (m : Nat) : ∀ n : Nat, bj_S (fun i => bj_S (fun j => f i j) m) n = bj_S (fun j => bj_S (fun i => f i j) n) m := by
  intro n
  induction n with
  | zero => exact (bj_S_z m).symm
  | succ n ih =>
    show bj_S (fun i => bj_S (fun j => f i j) m) n + bj_S (fun j => f n j) m = bj_S (fun j => bj_S (fun i => f i j) n + f n j) m
    rw [ih]
    exact (bj_S_ad (fun j => bj_S (fun i => f i j) n) (fun j => f n j) m).symm
/-! how many of a block are not 0 -/
def bj_i (x : Int32) : Int32 := if x = 0 then 0 else 1
def bj_n (a : Nat → Int32) (b : Nat) : Int32 := bj_s (fun k => bj_i (a (64 * b + k))) 64
theorem bj_n_cg {a c : Nat → Int32} (b : Nat) (h : ∀ k, k < 64 → a (64 * b + k) = c (64 * b + k)) : bj_n a b = bj_n c b :=
  bj_s_cg 64 (fun k hk => congrArg bj_i (h k hk))
theorem bj_n_tr {L M : Nat → Int32} (b : Nat) (h : ∀ u v, u < 8 → v < 8 → L (64 * b + 8 * u + v) = M (64 * b + 8 * v + u)) : bj_n L b = bj_n M b := by
  have e1 : bj_n L b = bj_s (fun u => bj_s (fun v => bj_i (L (64 * b + (8 * u + v)))) 8) 8 := bj_s_ml (fun k => bj_i (L (64 * b + k))) 8 8
  have e2 : bj_n M b = bj_s (fun u => bj_s (fun v => bj_i (M (64 * b + (8 * u + v)))) 8) 8 := bj_s_ml (fun k => bj_i (M (64 * b + k))) 8 8
  rw [e1, e2, bj_s_sw (fun u v => bj_i (L (64 * b + (8 * u + v)))) 8 8]
  refine bj_s_cg 8 (fun v hv => bj_s_cg 8 (fun u hu => ?_))
  show bj_i (L (64 * b + (8 * u + v))) = bj_i (M (64 * b + (8 * v + u)))
  rw [← Nat.add_assoc, ← Nat.add_assoc, h u v hu hv]
/-! the waves -/
def bj_c (t : Nat) : Int32 := if t = 0 then 64 else if t = 1 then 63 else if t = 2 then 59 else if t = 3 then 53 else if t = 4 then 45 else if t = 5 then 36 else if t = 6 then 24 else if t = 7 then 12 else 0
def bj_C (t : Nat) : Int32 := if t ≤ 8 then bj_c t else if t ≤ 16 then -bj_c (16 - t) else if t ≤ 24 then -bj_c (t - 16) else bj_c (32 - t)
def bj_K (u i : Nat) : Int32 := bj_C ((2 * i + 1) * u % 32)
theorem bj_Cb : ∀ t, t < 32 → (bj_C t).toInt.natAbs ≤ 64 := by decide +kernel
theorem bj_Kb (u i : Nat) : (bj_K u i).toInt.natAbs ≤ 64 := bj_Cb _ (Nat.mod_lt _ (by decide))
theorem bj_mulL {a b : Int32} (ha : a.toInt.natAbs ≤ 64) (hb : b.toInt.natAbs ≤ 64) : (a * b).toInt64 = a.toInt64 * b.toInt64 := by
  apply Int64.toInt_inj.mp
  have h : (a.toInt * b.toInt).natAbs ≤ 64 * 64 := by
    rw [Int.natAbs_mul]
    exact Nat.mul_le_mul ha hb
  rw [Int32.toInt_toInt64, Int32.toInt_mul, Int64.toInt_mul, Int32.toInt_toInt64, Int32.toInt_toInt64]
  generalize a.toInt * b.toInt = z at h ⊢
  rw [Int.bmod_eq_of_le (by omega) (by omega), Int.bmod_eq_of_le (by omega) (by omega)]
/-! bounds -/
def bj_B (A : Nat) (x : Int64) : Prop := x.toInt.natAbs ≤ A
theorem bj_Bm {A B : Nat} {x y : Int64} (hx : bj_B A x) (hy : bj_B B y) (h : A * B < 4611686018427387904) : bj_B (A * B) (x * y) := by
  have h1 : (x.toInt * y.toInt).natAbs ≤ A * B := by
    rw [Int.natAbs_mul]
    exact Nat.mul_le_mul hx hy
  show (x * y).toInt.natAbs ≤ A * B
  rw [Int64.toInt_mul]
  generalize x.toInt * y.toInt = z at h1 ⊢
  generalize A * B = c at h1 h ⊢
  rw [Int.bmod_eq_of_le (by omega) (by omega)]
  exact h1
theorem bj_Ba {A B : Nat} {x y : Int64} (hx : bj_B A x) (hy : bj_B B y) (h : A + B < 4611686018427387904) : bj_B (A + B) (x + y) := by
  have h1 : x.toInt.natAbs ≤ A := hx
  have h2 : y.toInt.natAbs ≤ B := hy
  show (x + y).toInt.natAbs ≤ A + B
  rw [Int64.toInt_add]
  generalize x.toInt = z at h1 ⊢
  generalize y.toInt = w at h2 ⊢
  rw [Int.bmod_eq_of_le (by omega) (by omega)]
  omega
theorem bj_BS {f : Nat → Int64} {A : Nat} : ∀ n : Nat, (∀ i, i < n → bj_B A (f i)) → n * A < 4611686018427387904 → bj_B (n * A) (bj_S f n) := by
  intro n
  induction n with
  | zero =>
    intro _ _
    show (0 : Int64).toInt.natAbs ≤ 0 * A
    rw [show (0 : Int64).toInt = 0 from by decide]
    exact Nat.zero_le _
  | succ n ih =>
    intro h hn
    rw [Nat.succ_mul] at hn ⊢
    exact bj_Ba (ih (fun i hi => h i (by omega)) (by omega)) (h n (by omega)) hn
/-! what is shown -/
def bj_e (u : Nat) : Int32 := if u = 0 then 1 else 2
def bj_D (q u v : Nat) : Nat := 8192 * q * (2 + u + v)
theorem bj_D_le {q u v : Nat} (hq : q ≤ 8) (hu : u < 8) (hv : v < 8) : bj_D q u v ≤ 1048576 :=
  Nat.mul_le_mul (Nat.mul_le_mul_left 8192 hq) (show 2 + u + v ≤ 16 by omega)
theorem bj_D_ge {q u v : Nat} (hq : 1 ≤ q) : 16384 ≤ bj_D q u v :=
  Nat.mul_le_mul (Nat.mul_le_mul_left 8192 hq) (show 2 ≤ 2 + u + v by omega)
theorem bj_eb (u v : Nat) : (bj_e u * bj_e v).toInt.natAbs ≤ 4 := by
  unfold bj_e
  by_cases hu : u = 0
  · by_cases hv : v = 0
    · rw [if_pos hu, if_pos hv]; decide
    · rw [if_pos hu, if_neg hv]; decide
  · by_cases hv : v = 0
    · rw [if_neg hu, if_pos hv]; decide
    · rw [if_neg hu, if_neg hv]; decide
def bj_t (M : Nat → Int32) (q b i j u v : Nat) : Int64 := (bj_e u * bj_e v).toInt64 * (M (64 * b + 8 * v + u)).toInt64 * (nI (bj_D q u v)).toInt64 * (bj_K u i).toInt64 * (bj_K v j).toInt64
def bj_T (M : Nat → Int32) (q b i j : Nat) : Int64 := bj_S (fun v => bj_S (fun u => bj_t M q b i j u v) 8) 8
theorem bj_BI {A : Nat} {x : Int32} (h : x.toInt.natAbs ≤ A) : bj_B A x.toInt64 := by
  show x.toInt64.toInt.natAbs ≤ A
  rw [Int32.toInt_toInt64]
  exact h
theorem bj_Bt {M : Nat → Int32} {q : Nat} (hM : ∀ n, (M n).toInt.natAbs ≤ 65536) (hq : q ≤ 8) (b i j : Nat) {u v : Nat} (hu : u < 8) (hv : v < 8) :
    bj_B (4 * 65536 * 1048576 * 64 * 64) (bj_t M q b i j u v) := by
  have hD : (nI (bj_D q u v)).toInt.natAbs ≤ 1048576 := by
    have h := bj_D_le hq hu hv
    rw [nI_toInt (by omega)]
    omega
  exact bj_Bm (bj_Bm (bj_Bm (bj_Bm (bj_BI (bj_eb u v)) (bj_BI (hM _)) (by decide)) (bj_BI hD) (by decide)) (bj_BI (bj_Kb u i)) (by decide)) (bj_BI (bj_Kb v j)) (by decide)
theorem bj_BT {M : Nat → Int32} {q : Nat} (hM : ∀ n, (M n).toInt.natAbs ≤ 65536) (hq : q ≤ 8) (b i j : Nat) : bj_B (8 * (8 * (4 * 65536 * 1048576 * 64 * 64))) (bj_T M q b i j) :=
  bj_BS 8 (fun v hv => bj_BS 8 (fun u hu => bj_Bt hM hq b i j hu hv) (by decide)) (by decide)
def bj_z (T : Int64) : Int64 := (T + 536870912) >>> ((30 : Int32).toInt64 &&& 63)
theorem bj_z_i {T : Int64} (h : bj_B 72057594037927936 T) : (bj_z T).toInt = (T.toInt + 536870912) / 1073741824 := by
  show ((T + 536870912).toBitVec.sshiftRight (((30 : Int32).toInt64 &&& 63).toBitVec.smod 64).toNat).toInt = _
  rw [show (((30 : Int32).toInt64 &&& 63).toBitVec.smod 64).toNat = 30 from by decide, BitVec.toInt_sshiftRight]
  show (T + 536870912).toInt >>> 30 = _
  rw [Int.shiftRight_eq_div_pow, Int64.toInt_add, show (536870912 : Int64).toInt = 536870912 from by decide]
  have h1 : T.toInt.natAbs ≤ 72057594037927936 := h
  generalize T.toInt = z at h1 ⊢
  rw [Int.bmod_eq_of_le (by omega) (by omega)]
  first | done | rfl
/-- the grey value nearest to g -/
def bj_cl (g : Int32) : Int32 := if g < 0 then 0 else if 255 < g then 255 else g
def bj_yz (z : Int64) : Int32 := if z < -128 then 0 else if 127 < z then 255 else 128 + z.toInt32
theorem bj_xy {T : Int64} (h : bj_B 72057594037927936 T) : bj_cl (128 + (bj_z T).toInt32) = bj_yz (bj_z T) := by
  have e := bj_z_i h
  have h1 : T.toInt.natAbs ≤ 72057594037927936 := h
  have hz : -134217728 ≤ (bj_z T).toInt ∧ (bj_z T).toInt ≤ 134217728 := by
    rw [e]
    generalize T.toInt = z at h1 ⊢
    omega
  generalize bj_z T = z at hz ⊢
  have e1 : z.toInt32.toInt = z.toInt := by
    rw [Int64.toInt_toInt32]
    exact Int.bmod_eq_of_le (by omega) (by omega)
  have e2 : (128 + z.toInt32).toInt = 128 + z.toInt := by
    rw [Int32.toInt_add, e1, show (128 : Int32).toInt = 128 from by decide]
    exact Int.bmod_eq_of_le (by omega) (by omega)
  unfold bj_cl bj_yz
  have c1 : (128 + z.toInt32 < 0) ↔ (z < -128) := by
    rw [Int32.lt_iff_toInt_lt, Int64.lt_iff_toInt_lt, e2, show (0 : Int32).toInt = 0 from by decide, show (-128 : Int64).toInt = -128 from by decide]
    omega
  have c2 : (255 < 128 + z.toInt32) ↔ (127 < z) := by
    rw [Int32.lt_iff_toInt_lt, Int64.lt_iff_toInt_lt, e2, show (255 : Int32).toInt = 255 from by decide, show (127 : Int64).toInt = 127 from by decide]
    omega
  by_cases d1 : z < -128
  · rw [if_pos d1, if_pos (c1.mpr d1)]
  · rw [if_neg d1, if_neg (fun k => d1 (c1.mp k))]
    by_cases d2 : 127 < z
    · rw [if_pos d2, if_pos (c2.mpr d2)]
    · rw [if_neg d2, if_neg (fun k => d2 (c2.mp k))]
/-- pixel (x, y) as shown -/
def bj_sh (M : Nat → Int32) (q x y : Nat) : Int32 := bj_yz (bj_z (bj_T M q (2 * (y / 8) + x / 8) (x % 8) (y % 8)))
/-- what the component adds up -/
def bj_tx (L : Nat → Int32) (q b i j u v : Nat) : Int64 := (bj_e u * bj_e v).toInt64 * ((L (64 * b + 8 * u + v)).toInt64 * (nI (bj_D q u v)).toInt64) * (bj_K u i * bj_K v j).toInt64
def bj_TX (L : Nat → Int32) (q b i j : Nat) : Int64 := bj_S (fun u => bj_S (fun v => bj_tx L q b i j u v) 8) 8
theorem bj_TX_T {L M : Nat → Int32} (q b i j : Nat) (h : ∀ u v, u < 8 → v < 8 → L (64 * b + 8 * u + v) = M (64 * b + 8 * v + u)) : bj_TX L q b i j = bj_T M q b i j := by
  unfold bj_TX bj_T
  rw [bj_S_sw (fun u v => bj_tx L q b i j u v) 8 8]
  refine bj_S_cg 8 (fun v hv => bj_S_cg 8 (fun u hu => ?_))
  show bj_tx L q b i j u v = bj_t M q b i j u v
  unfold bj_tx bj_t
  rw [h u v hu hv, bj_mulL (bj_Kb u i) (bj_Kb v j)]
  simp only [Int64.mul_assoc]
/-! the levels -/
def bj_sm (p : Nat → Int32) (b u v : Nat) : Int32 := bj_s (fun j => bj_s (fun i => (p (128 * (b / 2) + 8 * (b % 2) + 16 * j + i) - 128) * bj_K u i * bj_K v j) 8) 8
def bj_ab (s : Int32) : Int32 := if s < 0 then -s else s
def bj_rd (s d : Int32) : Int32 := if s < 0 then -((2 * bj_ab s + d) / (2 * d)) else (2 * bj_ab s + d) / (2 * d)
def bj_lv (p : Nat → Int32) (q b u v : Nat) : Int32 := bj_rd (bj_sm p b u v) (nI (bj_D q u v))
theorem bj_dv (x : Int32) {e : Nat} (h1 : 32768 ≤ e) (h2 : e < 2147483648) : (x / nI e).toInt.natAbs ≤ 65536 := by
  have hn : nI e ≠ -1 := by
    intro h
    have h3 := congrArg Int32.toInt h
    rw [nI_toInt h2, show (-1 : Int32).toInt = -1 from by decide] at h3
    omega
  rw [Int32.toInt_div_of_ne_right x (nI e) hn, Int.natAbs_tdiv, nI_toInt h2]
  show x.toInt.natAbs / e ≤ 65536
  have a := Int32.toInt_lt x
  have b := Int32.le_toInt x
  generalize x.toInt = z at a b ⊢
  exact Nat.div_le_of_le_mul (by omega)
theorem bj_ng {x : Int32} (h : x.toInt.natAbs ≤ 65536) : (-x).toInt.natAbs ≤ 65536 := by
  rw [Int32.toInt_neg]
  generalize x.toInt = z at h ⊢
  rw [Int.bmod_eq_of_le (by omega) (by omega)]
  omega
theorem bj_2D (q u v : Nat) : 2 * nI (bj_D q u v) = nI (2 * bj_D q u v) := pk_mul 2 _
theorem bj_2D0 {q u v : Nat} (h1 : 1 ≤ q) (hq : q ≤ 8) (hu : u < 8) (hv : v < 8) : ¬ 2 * nI (bj_D q u v) = 0 := by
  have a := bj_D_ge (u := u) (v := v) h1
  have b := bj_D_le hq hu hv
  rw [bj_2D]
  exact nI_ne0 (by omega) (by omega)
theorem bj_lv_b (p : Nat → Int32) {q u v : Nat} (b : Nat) (h1 : 1 ≤ q) (hq : q ≤ 8) (hu : u < 8) (hv : v < 8) : (bj_lv p q b u v).toInt.natAbs ≤ 65536 := by
  have ha := bj_D_ge (u := u) (v := v) h1
  have hb := bj_D_le hq hu hv
  unfold bj_lv bj_rd
  rw [bj_2D]
  by_cases hs : bj_sm p b u v < 0
  · rw [if_pos hs]
    exact bj_ng (bj_dv _ (by omega) (by omega))
  · rw [if_neg hs]
    exact bj_dv _ (by omega) (by omega)
