section
theorem pk_us {f : Nat → Int32} {k : Nat} {x : Int32} : upd f k x k = x := if_pos rfl
theorem pk_un {f : Nat → Int32} {k j : Nat} {x : Int32} (h : j ≠ k) : upd f k x j = f j := if_neg h
theorem pk_sub {a b : Nat} (h : b ≤ a) : nI a - nI b = nI (a - b) := by
  obtain ⟨c, rfl⟩ : ∃ c, a = c + b := ⟨a - b, by omega⟩
  rw [← nI_add, Int32.add_sub_cancel, Nat.add_sub_cancel]
theorem pk_m1 (n : Nat) : nI (n + 1) + (-1) = nI n := by
  rw [← nI_1, Int32.add_assoc, show (1 : Int32) + (-1) = 0 from rfl, Int32.add_zero]
theorem pk_mul (a b : Nat) : nI a * nI b = nI (a * b) := (Int32.ofNat_mul a b).symm
theorem pk_div {a d : Nat} (ha : a < 2 ^ 31) (h0 : 0 < d) (hd : d < 2 ^ 31) : nI a / nI d = nI (a / d) := by
  apply Int32.toInt_inj.mp
  rw [lg_idiv_nonneg (by rw [nI_toInt ha]; omega) (by rw [nI_toInt hd]; omega), nI_toInt ha, nI_toInt hd, nI_toInt (Nat.lt_of_le_of_lt (Nat.div_le_self a d) ha)]
  first | rfl | exact (Int.natCast_ediv _ _).symm
theorem pk_rem {a d : Nat} (ha : a < 2 ^ 31) (h0 : 0 < d) (hd : d < 2 ^ 31) : nI a - nI a / nI d * nI d = nI (a % d) := by
  rw [pk_div ha h0 hd, pk_mul, pk_sub (Nat.div_mul_le_self a d)]
  exact congrArg nI (by have := Nat.div_add_mod' a d; omega)
theorem pk_sub_toInt {a b : Nat} (ha : a < 2 ^ 30) (hb : b < 2 ^ 30) : (nI a - nI b).toInt = (a : Int) - b := by
  rw [Int32.toInt_sub, nI_toInt (by omega), nI_toInt (by omega)]
  exact Int.bmod_eq_of_le (by omega) (by omega)
theorem pk_ix (x : Int32) {n : Nat} (hn : n < 2 ^ 31) : x < 0 ∨ nI n ≤ x ∨ ∃ j : Nat, j < n ∧ x = nI j := by
  by_cases h : x < 0
  · exact Or.inl h
  · obtain ⟨j, hj, rfl⟩ := nI_of h
    by_cases h2 : j < n
    · exact Or.inr (Or.inr ⟨j, h2, rfl⟩)
    · exact Or.inr (Or.inl (nI_le (by omega) hj))
theorem pk_le {x y : Int32} {A B : Prop} (a b : Nat) (f : a ≤ b → A) (g : b < a → B) (hx : x = nI a := by rfl) (hy : y = nI b := by rfl) (ha : a < 2 ^ 31 := by omega) (hb : b < 2 ^ 31 := by omega) : (x ≤ y → A) ∧ (¬ x ≤ y → B) := by
  subst hx hy
  rw [nI_leI ha hb]
  exact ⟨f, fun z => g (by omega)⟩
theorem pk_lt {x y : Int32} {A B : Prop} (a b : Nat) (f : a < b → A) (g : b ≤ a → B) (hx : x = nI a := by rfl) (hy : y = nI b := by rfl) (ha : a < 2 ^ 31 := by omega) (hb : b < 2 ^ 31 := by omega) : (x < y → A) ∧ (¬ x < y → B) := by
  subst hx hy
  rw [nI_ltI ha hb]
  exact ⟨f, fun z => g (by omega)⟩
theorem pk_eq {x y : Int32} {A B : Prop} (a b : Nat) (f : a = b → A) (g : a ≠ b → B) (hx : x = nI a := by rfl) (hy : y = nI b := by rfl) (ha : a < 2 ^ 31 := by omega) (hb : b < 2 ^ 31 := by omega) : (x = y → A) ∧ (¬ x = y → B) := by
  subst hx hy
  rw [nI_eq ha hb]
  exact ⟨f, g⟩
theorem pk_in {x : Int32} (n N : Nat) (h : n < N) (hx : x = nI n := by rfl) (hN : N < 2 ^ 31 := by omega) : vp_in x N := by
  subst hx
  exact vp_in_nI h hN
theorem pk_cl {x : Int32} (n : Nat) (hx : x = nI n := by rfl) (h : n < 2 ^ 31 := by omega) : x.toNatClampNeg = n := by
  subst hx
  exact nI_clamp h
theorem pk_tn {n : Nat} (h : n < 2 ^ 32) : (nI n).toBitVec.toNat = n := Nat.mod_eq_of_lt h
theorem pk_and (x : Int32) {m : Int32} (k : Nat) (hm : m.toBitVec.toNat = 2 ^ k - 1) : x &&& m = nI (x.toBitVec.toNat % 2 ^ k) := by
  apply Int32.toBitVec_inj.mp
  apply BitVec.eq_of_toNat_eq
  rw [Int32.toBitVec_and, BitVec.toNat_and, hm, Nat.and_two_pow_sub_one_eq_mod]
  show _ = (BitVec.ofNat 32 _).toNat
  rw [BitVec.toNat_ofNat]
  exact (Nat.mod_eq_of_lt (Nat.lt_of_le_of_lt (Nat.mod_le _ _) x.toBitVec.isLt)).symm
theorem pk_andN {n : Nat} (h : n < 2 ^ 32) {m : Int32} (k : Nat) (hm : m.toBitVec.toNat = 2 ^ k - 1) : nI n &&& m = nI (n % 2 ^ k) := by
  rw [pk_and _ k hm, pk_tn h]
theorem pk_shr (a s : Int32) (k : Nat) (hs : (s.toBitVec.smod 32).toNat = k) : (a >>> s).toInt = a.toInt >>> k := by
  show (a.toBitVec.sshiftRight (s.toBitVec.smod 32).toNat).toInt = _
  rw [hs, BitVec.toInt_sshiftRight]
  rfl
theorem pk_shrN {n : Nat} (h : n < 2 ^ 31) (s : Int32) (k : Nat) (hs : (s.toBitVec.smod 32).toNat = k) : nI n >>> s = nI (n / 2 ^ k) := by
  apply Int32.toInt_inj.mp
  have h2 : n / 2 ^ k ≤ n := Nat.div_le_self _ _
  rw [pk_shr _ _ k hs, nI_toInt h, nI_toInt (by omega), Int.shiftRight_eq_div_pow]
  rfl
theorem pk_loop {σ : Type} (W : Nat → Nat → σ → Prop) (I : Nat → σ → Prop) (e i0 : Nat) (s : σ) (hi : i0 ≤ e) (h0 : I i0 s) (hx : ∀ n s, I e s → W (n + 1) e s)
    (hs : ∀ n i s, i < e → I i s → (∀ s', I (i + 1) s' → W n (i + 1) s') → W (n + 1) i s) : ∃ n, W n i0 s :=
  ⟨e + 1, loop_i W I e hx hs (e + 1) i0 s hi (by omega) h0⟩
end
section
/-! sums, counts, waves, levels, what is shown: plain functions -/
def bj_s (f : Nat → Int32) : Nat → Int32
  | 0 => 0
  | n + 1 => bj_s f n + f n
def bj_S (f : Nat → Int64) : Nat → Int64
  | 0 => 0
  | n + 1 => bj_S f n + f n
theorem bj_s_cg {f g : Nat → Int32} : ∀ n : Nat, (∀ i, i < n → f i = g i) → bj_s f n = bj_s g n := by
  intro n
  induction n with
  | zero => intro _; rfl
  | succ n ih =>
    intro h
    show bj_s f n + f n = bj_s g n + g n
    rw [ih (fun i hi => h i (by omega)), h n (by omega)]
theorem bj_s_z : ∀ n : Nat, bj_s (fun _ => 0) n = 0 := by
  intro n
  induction n with
  | zero => rfl
  | succ n ih =>
    show bj_s (fun _ => 0) n + 0 = 0
    rw [ih, Int32.add_zero]
theorem bj_s_ad (f g : Nat → Int32) : ∀ n : Nat, bj_s (fun i => f i + g i) n = bj_s f n + bj_s g n := by
  intro n
  induction n with
  | zero => exact (Int32.add_zero 0).symm
  | succ n ih =>
    show bj_s (fun i => f i + g i) n + (f n + g n) = (bj_s f n + f n) + (bj_s g n + g n)
    rw [ih]
    grind
theorem bj_s_sw (f : Nat → Nat → Int32) (m : Nat) : ∀ n : Nat, bj_s (fun i => bj_s (fun j => f i j) m) n = bj_s (fun j => bj_s (fun i => f i j) n) m := by
  intro n
  induction n with
  | zero => exact (bj_s_z m).symm
  | succ n ih =>
    show bj_s (fun i => bj_s (fun j => f i j) m) n + bj_s (fun j => f n j) m = bj_s (fun j => bj_s (fun i => f i j) n + f n j) m
    rw [ih]
    exact (bj_s_ad (fun j => bj_s (fun i => f i j) n) (fun j => f n j) m).symm
theorem bj_s_ap (f : Nat → Int32) (a : Nat) : ∀ b : Nat, bj_s f (a + b) = bj_s f a + bj_s (fun i => f (a + i)) b := by
  intro b
  induction b with
  | zero => exact (Int32.add_zero _).symm
  | succ b ih =>
    show bj_s f (a + b) + f (a + b) = bj_s f a + (bj_s (fun i => f (a + i)) b + f (a + b))
    rw [ih, Int32.add_assoc]
theorem bj_s_ml (f : Nat → Int32) (c : Nat) : ∀ m : Nat, bj_s f (c * m) = bj_s (fun o => bj_s (fun k => f (c * o + k)) c) m := by
  intro m
  induction m with
  | zero => rfl
  | succ m ih =>
    show bj_s f (c * m + c) = bj_s (fun o => bj_s (fun k => f (c * o + k)) c) m + bj_s (fun k => f (c * m + k)) c
    rw [bj_s_ap, ih]
theorem bj_S_cg {f g : Nat → Int64} : ∀ n : Nat, (∀ i, i < n → f i = g i) → bj_S f n = bj_S g n := by
  intro n
  induction n with
  | zero => intro _; rfl
  | succ n ih =>
    intro h
    show bj_S f n + f n = bj_S g n + g n
    rw [ih (fun i hi => h i (by omega)), h n (by omega)]
theorem bj_S_z : ∀ n : Nat, bj_S (fun _ => 0) n = 0 := by
  intro n
  induction n with
  | zero => rfl
  | succ n ih =>
    show bj_S (fun _ => 0) n + 0 = 0
    rw [ih, Int64.add_zero]
theorem bj_S_ad (f g : Nat → Int64) : ∀ n : Nat, bj_S (fun i => f i + g i) n = bj_S f n + bj_S g n := by
  intro n
  induction n with
  | zero => exact (Int64.add_zero 0).symm
  | succ n ih =>
    show bj_S (fun i => f i + g i) n + (f n + g n) = (bj_S f n + f n) + (bj_S g n + g n)
    rw [ih]
    grind
theorem bj_S_sw (f : Nat → Nat → Int64) (m : Nat) : ∀ n : Nat, bj_S (fun i => bj_S (fun j => f i j) m) n = bj_S (fun j => bj_S (fun i => f i j) n) m := by
  intro n
  induction n with
  | zero => exact (bj_S_z m).symm
  | succ n ih =>
    show bj_S (fun i => bj_S (fun j => f i j) m) n + bj_S (fun j => f n j) m = bj_S (fun j => bj_S (fun i => f i j) n + f n j) m
    rw [ih]
    exact (bj_S_ad (fun j => bj_S (fun i => f i j) n) (fun j => f n j) m).symm
/-! how many of a block are not 0 -/
def bj_i (x : Int32) : Int32 := if x = 0 then 0 else 1
def bj_n (a : Nat → Int32) (b : Nat) : Int32 := bj_s (fun k => bj_i (a (64 * b + k))) 64
theorem bj_n_cg {a c : Nat → Int32} (b : Nat) (h : ∀ k, k < 64 → a (64 * b + k) = c (64 * b + k)) : bj_n a b = bj_n c b :=
  bj_s_cg 64 (fun k hk => congrArg bj_i (h k hk))
theorem bj_n_tr {L M : Nat → Int32} (b : Nat) (h : ∀ u v, u < 8 → v < 8 → L (64 * b + 8 * u + v) = M (64 * b + 8 * v + u)) : bj_n L b = bj_n M b := by
  have e1 : bj_n L b = bj_s (fun u => bj_s (fun v => bj_i (L (64 * b + (8 * u + v)))) 8) 8 := bj_s_ml (fun k => bj_i (L (64 * b + k))) 8 8
  have e2 : bj_n M b = bj_s (fun u => bj_s (fun v => bj_i (M (64 * b + (8 * u + v)))) 8) 8 := bj_s_ml (fun k => bj_i (M (64 * b + k))) 8 8
  rw [e1, e2, bj_s_sw (fun u v => bj_i (L (64 * b + (8 * u + v)))) 8 8]
  refine bj_s_cg 8 (fun v hv => bj_s_cg 8 (fun u hu => ?_))
  show bj_i (L (64 * b + (8 * u + v))) = bj_i (M (64 * b + (8 * v + u)))
  rw [← Nat.add_assoc, ← Nat.add_assoc, h u v hu hv]
/-! the waves -/
def bj_c (t : Nat) : Int32 := if t = 0 then 64 else if t = 1 then 63 else if t = 2 then 59 else if t = 3 then 53 else if t = 4 then 45 else if t = 5 then 36 else if t = 6 then 24 else if t = 7 then 12 else 0
def bj_C (t : Nat) : Int32 := if t ≤ 8 then bj_c t else if t ≤ 16 then -bj_c (16 - t) else if t ≤ 24 then -bj_c (t - 16) else bj_c (32 - t)
def bj_K (u i : Nat) : Int32 := bj_C ((2 * i + 1) * u % 32)
theorem bj_Cb : ∀ t, t < 32 → (bj_C t).toInt.natAbs ≤ 64 := by decide +kernel
theorem bj_Kb (u i : Nat) : (bj_K u i).toInt.natAbs ≤ 64 := bj_Cb _ (Nat.mod_lt _ (by decide))
theorem bj_mulL {a b : Int32} (ha : a.toInt.natAbs ≤ 64) (hb : b.toInt.natAbs ≤ 64) : (a * b).toInt64 = a.toInt64 * b.toInt64 := by
  apply Int64.toInt_inj.mp
  have h : (a.toInt * b.toInt).natAbs ≤ 64 * 64 := by
    rw [Int.natAbs_mul]
    exact Nat.mul_le_mul ha hb
  rw [Int32.toInt_toInt64, Int32.toInt_mul, Int64.toInt_mul, Int32.toInt_toInt64, Int32.toInt_toInt64]
  generalize a.toInt * b.toInt = z at h ⊢
  rw [Int.bmod_eq_of_le (by omega) (by omega), Int.bmod_eq_of_le (by omega) (by omega)]
/-! bounds -/
def bj_B (A : Nat) (x : Int64) : Prop := x.toInt.natAbs ≤ A
theorem bj_Bm {A B : Nat} {x y : Int64} (hx : bj_B A x) (hy : bj_B B y) (h : A * B < 4611686018427387904) : bj_B (A * B) (x * y) := by
  have h1 : (x.toInt * y.toInt).natAbs ≤ A * B := by
    rw [Int.natAbs_mul]
    exact Nat.mul_le_mul hx hy
  show (x * y).toInt.natAbs ≤ A * B
  rw [Int64.toInt_mul]
  generalize x.toInt * y.toInt = z at h1 ⊢
  generalize A * B = c at h1 h ⊢
  rw [Int.bmod_eq_of_le (by omega) (by omega)]
  exact h1
theorem bj_Ba {A B : Nat} {x y : Int64} (hx : bj_B A x) (hy : bj_B B y) (h : A + B < 4611686018427387904) : bj_B (A + B) (x + y) := by
  have h1 : x.toInt.natAbs ≤ A := hx
  have h2 : y.toInt.natAbs ≤ B := hy
  show (x + y).toInt.natAbs ≤ A + B
  rw [Int64.toInt_add]
  generalize x.toInt = z at h1 ⊢
  generalize y.toInt = w at h2 ⊢
  rw [Int.bmod_eq_of_le (by omega) (by omega)]
  omega
theorem bj_BS {f : Nat → Int64} {A : Nat} : ∀ n : Nat, (∀ i, i < n → bj_B A (f i)) → n * A < 4611686018427387904 → bj_B (n * A) (bj_S f n) := by
  intro n
  induction n with
  | zero =>
    intro _ _
    show (0 : Int64).toInt.natAbs ≤ 0 * A
    rw [show (0 : Int64).toInt = 0 from by decide]
    exact Nat.zero_le _
  | succ n ih =>
    intro h hn
    rw [Nat.succ_mul] at hn ⊢
    exact bj_Ba (ih (fun i hi => h i (by omega)) (by omega)) (h n (by omega)) hn
/-! what is shown -/
def bj_e (u : Nat) : Int32 := if u = 0 then 1 else 2
def bj_D (q u v : Nat) : Nat := 8192 * q * (2 + u + v)
theorem bj_D_le {q u v : Nat} (hq : q ≤ 8) (hu : u < 8) (hv : v < 8) : bj_D q u v ≤ 1048576 :=
  Nat.mul_le_mul (Nat.mul_le_mul_left 8192 hq) (show 2 + u + v ≤ 16 by omega)
theorem bj_D_ge {q u v : Nat} (hq : 1 ≤ q) : 16384 ≤ bj_D q u v :=
  Nat.mul_le_mul (Nat.mul_le_mul_left 8192 hq) (show 2 ≤ 2 + u + v by omega)
theorem bj_eb (u v : Nat) : (bj_e u * bj_e v).toInt.natAbs ≤ 4 := by
  unfold bj_e
  by_cases hu : u = 0
  · by_cases hv : v = 0
    · rw [if_pos hu, if_pos hv]; decide
    · rw [if_pos hu, if_neg hv]; decide
  · by_cases hv : v = 0
    · rw [if_neg hu, if_pos hv]; decide
    · rw [if_neg hu, if_neg hv]; decide
def bj_t (M : Nat → Int32) (q b i j u v : Nat) : Int64 := (bj_e u * bj_e v).toInt64 * (M (64 * b + 8 * v + u)).toInt64 * (nI (bj_D q u v)).toInt64 * (bj_K u i).toInt64 * (bj_K v j).toInt64
def bj_T (M : Nat → Int32) (q b i j : Nat) : Int64 := bj_S (fun v => bj_S (fun u => bj_t M q b i j u v) 8) 8
theorem bj_BI {A : Nat} {x : Int32} (h : x.toInt.natAbs ≤ A) : bj_B A x.toInt64 := by
  show x.toInt64.toInt.natAbs ≤ A
  rw [Int32.toInt_toInt64]
  exact h
theorem bj_Bt {M : Nat → Int32} {q : Nat} (hM : ∀ n, (M n).toInt.natAbs ≤ 65536) (hq : q ≤ 8) (b i j : Nat) {u v : Nat} (hu : u < 8) (hv : v < 8) :
    bj_B (4 * 65536 * 1048576 * 64 * 64) (bj_t M q b i j u v) := by
  have hD : (nI (bj_D q u v)).toInt.natAbs ≤ 1048576 := by
    have h := bj_D_le hq hu hv
    rw [nI_toInt (by omega)]
    omega
  exact bj_Bm (bj_Bm (bj_Bm (bj_Bm (bj_BI (bj_eb u v)) (bj_BI (hM _)) (by decide)) (bj_BI hD) (by decide)) (bj_BI (bj_Kb u i)) (by decide)) (bj_BI (bj_Kb v j)) (by decide)
theorem bj_BT {M : Nat → Int32} {q : Nat} (hM : ∀ n, (M n).toInt.natAbs ≤ 65536) (hq : q ≤ 8) (b i j : Nat) : bj_B (8 * (8 * (4 * 65536 * 1048576 * 64 * 64))) (bj_T M q b i j) :=
  bj_BS 8 (fun v hv => bj_BS 8 (fun u hu => bj_Bt hM hq b i j hu hv) (by decide)) (by decide)
def bj_z (T : Int64) : Int64 := (T + 536870912) >>> ((30 : Int32).toInt64 &&& 63)
theorem bj_z_i {T : Int64} (h : bj_B 72057594037927936 T) : (bj_z T).toInt = (T.toInt + 536870912) / 1073741824 := by
  show ((T + 536870912).toBitVec.sshiftRight (((30 : Int32).toInt64 &&& 63).toBitVec.smod 64).toNat).toInt = _
  rw [show (((30 : Int32).toInt64 &&& 63).toBitVec.smod 64).toNat = 30 from by decide, BitVec.toInt_sshiftRight]
  show (T + 536870912).toInt >>> 30 = _
  rw [Int.shiftRight_eq_div_pow, Int64.toInt_add, show (536870912 : Int64).toInt = 536870912 from by decide]
  have h1 : T.toInt.natAbs ≤ 72057594037927936 := h
  generalize T.toInt = z at h1 ⊢
  rw [Int.bmod_eq_of_le (by omega) (by omega)]
  first | done | rfl
/-- the grey value nearest to g -/
def bj_cl (g : Int32) : Int32 := if g < 0 then 0 else if 255 < g then 255 else g
def bj_yz (z : Int64) : Int32 := if z < -128 then 0 else if 127 < z then 255 else 128 + z.toInt32
theorem bj_xy {T : Int64} (h : bj_B 72057594037927936 T) : bj_cl (128 + (bj_z T).toInt32) = bj_yz (bj_z T) := by
  have e := bj_z_i h
  have h1 : T.toInt.natAbs ≤ 72057594037927936 := h
  have hz : -134217728 ≤ (bj_z T).toInt ∧ (bj_z T).toInt ≤ 134217728 := by
    rw [e]
    generalize T.toInt = z at h1 ⊢
    omega
  generalize bj_z T = z at hz ⊢
  have e1 : z.toInt32.toInt = z.toInt := by
    rw [Int64.toInt_toInt32]
    exact Int.bmod_eq_of_le (by omega) (by omega)
  have e2 : (128 + z.toInt32).toInt = 128 + z.toInt := by
    rw [Int32.toInt_add, e1, show (128 : Int32).toInt = 128 from by decide]
    exact Int.bmod_eq_of_le (by omega) (by omega)
  unfold bj_cl bj_yz
  have c1 : (128 + z.toInt32 < 0) ↔ (z < -128) := by
    rw [Int32.lt_iff_toInt_lt, Int64.lt_iff_toInt_lt, e2, show (0 : Int32).toInt = 0 from by decide, show (-128 : Int64).toInt = -128 from by decide]
    omega
  have c2 : (255 < 128 + z.toInt32) ↔ (127 < z) := by
    rw [Int32.lt_iff_toInt_lt, Int64.lt_iff_toInt_lt, e2, show (255 : Int32).toInt = 255 from by decide, show (127 : Int64).toInt = 127 from by decide]
    omega
  by_cases d1 : z < -128
  · rw [if_pos d1, if_pos (c1.mpr d1)]
  · rw [if_neg d1, if_neg (fun k => d1 (c1.mp k))]
    by_cases d2 : 127 < z
    · rw [if_pos d2, if_pos (c2.mpr d2)]
    · rw [if_neg d2, if_neg (fun k => d2 (c2.mp k))]
/-- pixel (x, y) as shown -/
def bj_sh (M : Nat → Int32) (q x y : Nat) : Int32 := bj_yz (bj_z (bj_T M q (2 * (y / 8) + x / 8) (x % 8) (y % 8)))
/-- what the component adds up -/
def bj_tx (L : Nat → Int32) (q b i j u v : Nat) : Int64 := (bj_e u * bj_e v).toInt64 * ((L (64 * b + 8 * u + v)).toInt64 * (nI (bj_D q u v)).toInt64) * (bj_K u i * bj_K v j).toInt64
def bj_TX (L : Nat → Int32) (q b i j : Nat) : Int64 := bj_S (fun u => bj_S (fun v => bj_tx L q b i j u v) 8) 8
theorem bj_TX_T {L M : Nat → Int32} (q b i j : Nat) (h : ∀ u v, u < 8 → v < 8 → L (64 * b + 8 * u + v) = M (64 * b + 8 * v + u)) : bj_TX L q b i j = bj_T M q b i j := by
  unfold bj_TX bj_T
  rw [bj_S_sw (fun u v => bj_tx L q b i j u v) 8 8]
  refine bj_S_cg 8 (fun v hv => bj_S_cg 8 (fun u hu => ?_))
  show bj_tx L q b i j u v = bj_t M q b i j u v
  unfold bj_tx bj_t
  rw [h u v hu hv, bj_mulL (bj_Kb u i) (bj_Kb v j)]
  simp only [Int64.mul_assoc]
/-! the levels -/
def bj_sm (p : Nat → Int32) (b u v : Nat) : Int32 := bj_s (fun j => bj_s (fun i => (p (128 * (b / 2) + 8 * (b % 2) + 16 * j + i) - 128) * bj_K u i * bj_K v j) 8) 8
def bj_ab (s : Int32) : Int32 := if s < 0 then -s else s
def bj_rd (s d : Int32) : Int32 := if s < 0 then -((2 * bj_ab s + d) / (2 * d)) else (2 * bj_ab s + d) / (2 * d)
def bj_lv (p : Nat → Int32) (q b u v : Nat) : Int32 := bj_rd (bj_sm p b u v) (nI (bj_D q u v))
theorem bj_dv (x : Int32) {e : Nat} (h1 : 32768 ≤ e) (h2 : e < 2147483648) : (x / nI e).toInt.natAbs ≤ 65536 := by
  have hn : nI e ≠ -1 := by
    intro h
    have h3 := congrArg Int32.toInt h
    rw [nI_toInt h2, show (-1 : Int32).toInt = -1 from by decide] at h3
    omega
  rw [Int32.toInt_div_of_ne_right x (nI e) hn, Int.natAbs_tdiv, nI_toInt h2]
  show x.toInt.natAbs / e ≤ 65536
  have a := Int32.toInt_lt x
  have b := Int32.le_toInt x
  generalize x.toInt = z at a b ⊢
  exact Nat.div_le_of_le_mul (by omega)
theorem bj_ng {x : Int32} (h : x.toInt.natAbs ≤ 65536) : (-x).toInt.natAbs ≤ 65536 := by
  rw [Int32.toInt_neg]
  generalize x.toInt = z at h ⊢
  rw [Int.bmod_eq_of_le (by omega) (by omega)]
  omega
theorem bj_2D (q u v : Nat) : 2 * nI (bj_D q u v) = nI (2 * bj_D q u v) := pk_mul 2 _
theorem bj_2D0 {q u v : Nat} (h1 : 1 ≤ q) (hq : q ≤ 8) (hu : u < 8) (hv : v < 8) : ¬ 2 * nI (bj_D q u v) = 0 := by
  have a := bj_D_ge (u := u) (v := v) h1
  have b := bj_D_le hq hu hv
  rw [bj_2D]
  exact nI_ne0 (by omega) (by omega)
theorem bj_lv_b (p : Nat → Int32) {q u v : Nat} (b : Nat) (h1 : 1 ≤ q) (hq : q ≤ 8) (hu : u < 8) (hv : v < 8) : (bj_lv p q b u v).toInt.natAbs ≤ 65536 := by
  have ha := bj_D_ge (u := u) (v := v) h1
  have hb := bj_D_le hq hu hv
  unfold bj_lv bj_rd
  rw [bj_2D]
  by_cases hs : bj_sm p b u v < 0
  · rw [if_pos hs]
    exact bj_ng (bj_dv _ (by omega) (by omega))
  · rw [if_neg hs]
    exact bj_dv _ (by omega) (by omega)
end
section
/-! indices, shifts, masks; arrays that are written from the left -/
theorem bj_ix1 (y x : Nat) : (16 : Int32) * nI y + nI x = nI (16 * y + x) := by
  show nI 16 * nI y + nI x = _
  rw [pk_mul, nI_add]
theorem bj_ix3 (u i : Nat) : (8 : Int32) * nI u + nI i = nI (8 * u + i) := by
  show nI 8 * nI u + nI i = _
  rw [pk_mul, nI_add]
theorem bj_ix4 (b k : Nat) : (64 : Int32) * nI b + nI k = nI (64 * b + k) := by
  show nI 64 * nI b + nI k = _
  rw [pk_mul, nI_add]
theorem bj_ix2 (b u v : Nat) : (64 : Int32) * nI b + (8 : Int32) * nI u + nI v = nI (64 * b + 8 * u + v) := by
  show nI 64 * nI b + nI 8 * nI u + nI v = _
  rw [pk_mul, pk_mul, nI_add, nI_add]
theorem bj_ix5 (t j l i : Nat) : (16 : Int32) * (nI t + nI j) + nI l + nI i = nI (16 * (t + j) + l + i) := by
  show nI 16 * (nI t + nI j) + nI l + nI i = _
  rw [nI_add, pk_mul, nI_add, nI_add]
theorem bj_ix6 (c j i : Nat) : nI c + (16 : Int32) * nI j + nI i = nI (c + 16 * j + i) := by
  show nI c + nI 16 * nI j + nI i = _
  rw [pk_mul, nI_add, nI_add]
theorem bj_ix7 (a b : Nat) : (128 : Int32) * nI a + (8 : Int32) * nI b = nI (128 * a + 8 * b) := by
  show nI 128 * nI a + nI 8 * nI b = _
  rw [pk_mul, pk_mul, nI_add]
theorem bj_D_eq (q u v : Nat) : (8192 : Int32) * nI q * ((2 : Int32) + nI u + nI v) = nI (bj_D q u v) := by
  show nI 8192 * nI q * (nI 2 + nI u + nI v) = nI (8192 * q * (2 + u + v))
  rw [pk_mul, nI_add, nI_add, pk_mul]
theorem bj_t_eq {u i : Nat} (hu : u < 8) (hi : i < 8) : ((2 : Int32) * nI i + 1) * nI u - ((2 : Int32) * nI i + 1) * nI u / 32 * 32 = nI ((2 * i + 1) * u % 32) := by
  have e : ((2 : Int32) * nI i + 1) * nI u = nI ((2 * i + 1) * u) := by
    show (nI 2 * nI i + nI 1) * nI u = _
    rw [pk_mul, nI_add, pk_mul]
  rw [e]
  have h : (2 * i + 1) * u ≤ 15 * 7 := Nat.mul_le_mul (by omega) (by omega)
  exact pk_rem (d := 32) (by omega) (by decide) (by decide)
theorem bj_a15 {n : Nat} (h : n < 256) : nI n &&& 15 = nI (n % 16) := pk_andN (by omega) 4 (by decide)
theorem bj_a7 {n : Nat} (h : n < 256) : nI n &&& 7 = nI (n % 8) := pk_andN (by omega) 3 (by decide)
theorem bj_a1 {n : Nat} (h : n < 256) : nI n &&& 1 = nI (n % 2) := pk_andN (by omega) 1 (by decide)
theorem bj_r4 {n : Nat} (h : n < 256) : nI n >>> ((4 : Int32) &&& 31) = nI (n / 16) := pk_shrN (by omega) _ 4 (by decide)
theorem bj_r6 {n : Nat} (h : n < 256) : nI n >>> ((6 : Int32) &&& 31) = nI (n / 64) := pk_shrN (by omega) _ 6 (by decide)
theorem bj_r3 {n : Nat} (h : n < 256) : nI n >>> ((3 : Int32) &&& 31) = nI (n / 8) := pk_shrN (by omega) _ 3 (by decide)
theorem bj_sl : ∀ s, s < 4 → ((nI s &&& 31).toBitVec.smod 32).toNat = s := by decide +kernel
theorem bj_rs {n s : Nat} (h : n < 256) (hs : s < 4) : nI n >>> (nI s &&& 31) = nI (n / 2 ^ s) := pk_shrN (by omega) _ s (bj_sl s hs)
theorem bj_d8 {n : Nat} (h : n < 256) : nI n / 8 = nI (n / 8) := pk_div (d := 8) (by omega) (by decide) (by decide)
theorem bj_d2 {n : Nat} (h : n < 256) : nI n / 2 = nI (n / 2) := pk_div (d := 2) (by omega) (by decide) (by decide)
theorem bj_m8 {n : Nat} (h : n < 256) : nI n - nI n / 8 * 8 = nI (n % 8) := pk_rem (d := 8) (by omega) (by decide) (by decide)
theorem bj_m2 {n : Nat} (h : n < 256) : nI n - nI n / 2 * 2 = nI (n % 2) := pk_rem (d := 2) (by omega) (by decide) (by decide)
theorem bj_bk (x y : Nat) : (2 : Int32) * nI y + nI x = nI (2 * y + x) := by
  show nI 2 * nI y + nI x = _
  rw [pk_mul, nI_add]
/-- the first k cells are g's, the others p's -/
def bj_P (g p : Nat → Int32) (k : Nat) : Nat → Int32 := fun m => if m < k then g m else p m
theorem bj_P_0 (g p : Nat → Int32) : bj_P g p 0 = p := funext fun m => if_neg (Nat.not_lt_zero m)
theorem bj_P_lt {g p : Nat → Int32} {k m : Nat} (h : m < k) : bj_P g p k m = g m := if_pos h
theorem bj_P_ge {g p : Nat → Int32} {k m : Nat} (h : k ≤ m) : bj_P g p k m = p m := if_neg (by omega)
theorem bj_P_u {g p : Nat → Int32} {k : Nat} {x : Int32} (h : x = g k) : upd (bj_P g p k) k x = bj_P g p (k + 1) := by
  funext m
  show (if m = k then x else if m < k then g m else p m) = if m < k + 1 then g m else p m
  by_cases h1 : m = k
  · subst h1
    rw [if_pos rfl, if_pos (by omega), h]
  · rw [if_neg h1]
    by_cases h2 : m < k
    · rw [if_pos h2, if_pos (by omega)]
    · rw [if_neg h2, if_neg (by omega)]
theorem bj_P_sk {g p : Nat → Int32} {k k' : Nat} (hk : k ≤ k') (h : ∀ m, k ≤ m → m < k' → g m = p m) : bj_P g p k = bj_P g p k' := by
  funext m
  show (if m < k then g m else p m) = if m < k' then g m else p m
  by_cases h1 : m < k
  · rw [if_pos h1, if_pos (by omega)]
  · rw [if_neg h1]
    by_cases h2 : m < k'
    · rw [if_pos h2, h m (by omega) h2]
    · rw [if_neg h2]
/-- as bj_P_u, at an index that is written in ints -/
theorem bj_P_w {g p : Nat → Int32} {k : Nat} {x i : Int32} (hi : i = nI k) (hk : k < 2147483648) (h : x = g k) : upd (bj_P g p k) i.toNatClampNeg x = bj_P g p (k + 1) := by
  rw [hi, nI_clamp hk]
  exact bj_P_u h
/-- reading at an index that is written in ints -/
theorem bj_rd_at {a : Nat → Int32} {k : Nat} {i : Int32} (hi : i = nI k) (hk : k < 2147483648) : a i.toNatClampNeg = a k := by
  rw [hi, nI_clamp hk]
/-! the parts of an index -/
theorem bj_q1 {y x : Nat} (h : x < 16) : (16 * y + x) % 16 = x := by omega
theorem bj_q2 {y x : Nat} (h : x < 16) : (16 * y + x) / 16 = y := by omega
theorem bj_q3 {b u v : Nat} (hu : u < 8) (hv : v < 8) : (64 * b + 8 * u + v) / 64 = b := by omega
theorem bj_q4 {b u v : Nat} (hu : u < 8) (hv : v < 8) : (64 * b + 8 * u + v) / 8 % 8 = u := by omega
theorem bj_q5 {b u v : Nat} (hu : u < 8) (hv : v < 8) : (64 * b + 8 * u + v) % 8 = v := by omega
/-! counts over the lost blocks -/
theorem bj_lost (M : Nat → Int32) (c : Nat → Prop) [DecidablePred c] : bj_s (fun n => if c (n / 64) then bj_i (M n) else 0) 256 = bj_s (fun o => if c o then bj_n M o else 0) 4 := by
  have e : bj_s (fun n => if c (n / 64) then bj_i (M n) else 0) 256 = bj_s (fun o => bj_s (fun k => if c ((64 * o + k) / 64) then bj_i (M (64 * o + k)) else 0) 64) 4 := bj_s_ml (fun n => if c (n / 64) then bj_i (M n) else 0) 64 4
  rw [e]
  refine bj_s_cg 4 (fun o _ => ?_)
  by_cases h : c o
  · rw [if_pos h]
    refine bj_s_cg 64 (fun k hk => ?_)
    rw [show (64 * o + k) / 64 = o from by omega, if_pos h]
  · rw [if_neg h]
    refine (bj_s_cg (g := fun _ => 0) 64 (fun k hk => ?_)).trans (bj_s_z 64)
    rw [show (64 * o + k) / 64 = o from by omega, if_neg h]
/-! the relation of the levels -/
def bj_Lr (L M : Nat → Int32) : Prop := ∀ b u v, b < 4 → u < 8 → v < 8 → L (64 * b + 8 * u + v) = M (64 * b + 8 * v + u)
def bj_Mb (M : Nat → Int32) : Prop := ∀ n, (M n).toInt.natAbs ≤ 65536
def bj_Ww (w : Nat → Int32) : Prop := ∀ u i, u < 8 → i < 8 → w (8 * u + i) = bj_K u i
theorem bj_sh_x {L M : Nat → Int32} {q x y : Nat} (hL : bj_Lr L M) (hM : bj_Mb M) (hq : q ≤ 8) (hx : x < 16) (hy : y < 16) :
    bj_cl (128 + (bj_z (bj_TX L q (2 * (y / 8) + x / 8) (x % 8) (y % 8))).toInt32) = bj_sh M q x y := by
  rw [bj_TX_T q (2 * (y / 8) + x / 8) (x % 8) (y % 8) (fun u v hu hv => hL _ u v (by omega) hu hv)]
  exact bj_xy (bj_BT hM hq _ _ _)
/-! what store and lose make of the levels -/
def bj_gX (p : Nat → Int32) (q : Nat) : Nat → Int32 := fun n => bj_lv p q (n / 64) (n / 8 % 8) (n % 8)
def bj_gY (p : Nat → Int32) (q : Nat) : Nat → Int32 := fun n => bj_lv p q (n / 64) (n % 8) (n / 8 % 8)
theorem bj_gXY (p : Nat → Int32) (q b : Nat) {u v : Nat} (hu : u < 8) (hv : v < 8) : bj_gX p q (64 * b + 8 * u + v) = bj_gY p q (64 * b + 8 * v + u) := by
  show bj_lv p q ((64 * b + 8 * u + v) / 64) ((64 * b + 8 * u + v) / 8 % 8) ((64 * b + 8 * u + v) % 8) = bj_lv p q ((64 * b + 8 * v + u) / 64) ((64 * b + 8 * v + u) % 8) ((64 * b + 8 * v + u) / 8 % 8)
  rw [bj_q3 hu hv, bj_q4 hu hv, bj_q5 hu hv, bj_q3 hv hu, bj_q4 hv hu, bj_q5 hv hu]
theorem bj_st_L (p L M : Nat → Int32) (q : Nat) : bj_Lr (bj_P (bj_gX p q) L 256) (bj_P (bj_gY p q) M 256) := by
  intro b u v hb hu hv
  rw [bj_P_lt (by omega), bj_P_lt (by omega)]
  exact bj_gXY p q b hu hv
theorem bj_st_b (p : Nat → Int32) {M : Nat → Int32} {q : Nat} (h1 : 1 ≤ q) (hq : q ≤ 8) (hM : bj_Mb M) : bj_Mb (bj_P (bj_gY p q) M 256) := by
  intro n
  by_cases h : n < 256
  · rw [bj_P_lt h]
    exact bj_lv_b p _ h1 hq (Nat.mod_lt _ (by decide)) (Nat.mod_lt _ (by decide))
  · rw [bj_P_ge (by omega)]
    exact hM n
theorem bj_st_n (p : Nat → Int32) (q : Nat) : bj_s (fun b => bj_n (bj_gX p q) b) 4 = bj_n (bj_gY p q) 0 + bj_n (bj_gY p q) 1 + bj_n (bj_gY p q) 2 + bj_n (bj_gY p q) 3 := by
  show (((0 : Int32) + bj_n (bj_gX p q) 0) + bj_n (bj_gX p q) 1) + bj_n (bj_gX p q) 2 + bj_n (bj_gX p q) 3 = _
  rw [Int32.zero_add, bj_n_tr 0 (fun u v hu hv => bj_gXY p q 0 hu hv), bj_n_tr 1 (fun u v hu hv => bj_gXY p q 1 hu hv), bj_n_tr 2 (fun u v hu hv => bj_gXY p q 2 hu hv), bj_n_tr 3 (fun u v hu hv => bj_gXY p q 3 hu hv)]
/-- the levels behind lose: r the interval, b the block -/
def bj_lo (L : Nat → Int32) (r b : Nat) : Nat → Int32 := fun n => if n / 64 / r = b / r then 0 else L n
theorem bj_lo_L {L M : Nat → Int32} (r b : Nat) (h : bj_Lr L M) : bj_Lr (bj_P (bj_lo L r b) L 256) (bj_P (bj_lo M r b) M 256) := by
  intro c u v hc hu hv
  rw [bj_P_lt (by omega), bj_P_lt (by omega)]
  show (if (64 * c + 8 * u + v) / 64 / r = b / r then 0 else L (64 * c + 8 * u + v)) = if (64 * c + 8 * v + u) / 64 / r = b / r then 0 else M (64 * c + 8 * v + u)
  rw [bj_q3 hu hv, bj_q3 hv hu, h c u v hc hu hv]
theorem bj_lo_b {M : Nat → Int32} (r b : Nat) (hM : bj_Mb M) : bj_Mb (bj_P (bj_lo M r b) M 256) := by
  intro n
  by_cases h : n < 256
  · rw [bj_P_lt h]
    show (if n / 64 / r = b / r then (0 : Int32) else M n).toInt.natAbs ≤ 65536
    by_cases h2 : n / 64 / r = b / r
    · rw [if_pos h2]
      decide
    · rw [if_neg h2]
      exact hM n
  · rw [bj_P_ge (by omega)]
    exact hM n
theorem bj_lo_n {L M : Nat → Int32} (r b : Nat) (h : bj_Lr L M) : bj_s (fun o => if o / r = b / r then bj_n L o else 0) 4 = bj_s (fun n => if n / 64 / r = b / r then bj_i (M n) else 0) 256 := by
  rw [bj_lost M (fun o => o / r = b / r)]
  refine bj_s_cg 4 (fun o ho => ?_)
  rw [bj_n_tr o (fun u v hu hv => h o u v ho hu hv)]
end
section
/-! ranges of arguments, and the methods without loops -/
section
variable {nq ni sq si : Int32} {p w L M : Nat → Int32}
theorem bj_rg (x : Int32) (n : Nat) (hn : n < 2147483648) (h0 : 0 < n) : x < 0 ∨ (¬ x < 0 ∧ nI n ≤ x ∧ nI (n - 1) < x) ∨ ∃ j : Nat, j < n ∧ x = nI j := by
  rcases pk_ix x hn with h | h | h
  · exact Or.inl h
  · exact Or.inr (Or.inl ⟨Int32.not_lt.mpr (Int32.le_trans (nI_pos' hn) h), h, Int32.lt_of_lt_of_le (nI_lt (by omega) hn) h⟩)
  · exact Or.inr (Or.inr h)
theorem bj_px (x y : Int32) : (∃ a b : Nat, a < 16 ∧ b < 16 ∧ x = nI a ∧ y = nI b) ∨ ((∀ post : Int32 → Prop, post 0 → wpX_isPixel post x y) ∧ (∀ (nq ni sq si : Int32) (p M : Nat → Int32) (post : Int32 → Prop), post 0 → wpY_isPixel post (nq, ni, sq, si, p, M) x y)) := by
  rcases bj_rg x 16 (by decide) (by decide) with h | ⟨h0, h1, h2⟩ | ⟨a, ha, rfl⟩
  · exact Or.inr ⟨fun post k => br_t h k, fun _ _ _ _ _ _ post k => br_t h k⟩
  · exact Or.inr ⟨fun post k => br_f h0 (br_t h1 k), fun _ _ _ _ _ _ post k => br_f h0 (br_t h2 k)⟩
  · have a0 : ¬ nI a < 0 := nI_pos (by omega)
    have a1 : ¬ (16 : Int32) ≤ nI a := nI_ge (b := 16) ha (by decide)
    have a2 : ¬ (15 : Int32) < nI a := nI_nlt (a := 15) (by omega) (by decide)
    rcases bj_rg y 16 (by decide) (by decide) with h | ⟨h0, h1, h2⟩ | ⟨b, hb, rfl⟩
    · exact Or.inr ⟨fun post k => br_f a0 (br_f a1 (br_t h k)), fun _ _ _ _ _ _ post k => br_f a0 (br_f a2 (br_t h k))⟩
    · exact Or.inr ⟨fun post k => br_f a0 (br_f a1 (br_f h0 (br_t h1 k))), fun _ _ _ _ _ _ post k => br_f a0 (br_f a2 (br_f h0 (br_t h2 k)))⟩
    · exact Or.inl ⟨a, b, ha, hb, rfl, rfl⟩
theorem bx_px {a b : Nat} (ha : a < 16) (hb : b < 16) {post : Int32 → Prop} (k : post 1) : wpX_isPixel post (nI a) (nI b) :=
  br_f (nI_pos (by omega)) (br_f (nI_ge (b := 16) ha (by decide)) (br_f (nI_pos (by omega)) (br_f (nI_ge (b := 16) hb (by decide)) k)))
theorem by_px {a b : Nat} (ha : a < 16) (hb : b < 16) {post : Int32 → Prop} (k : post 1) : wpY_isPixel post (nq, ni, sq, si, p, M) (nI a) (nI b) :=
  br_f (nI_pos (by omega)) (br_f (nI_nlt (a := 15) (by omega) (by decide)) (br_f (nI_pos (by omega)) (br_f (nI_nlt (a := 15) (by omega) (by decide)) k)))
theorem bj_gy (x : Int32) : (∀ post : Int32 → Prop, post 1 → wpX_isGrey post x) ∧ (∀ (nq ni sq si : Int32) (p M : Nat → Int32) (post : Int32 → Prop), post 1 → wpY_isGrey post (nq, ni, sq, si, p, M) x) ∨ ((∀ post : Int32 → Prop, post 0 → wpX_isGrey post x) ∧ (∀ (nq ni sq si : Int32) (p M : Nat → Int32) (post : Int32 → Prop), post 0 → wpY_isGrey post (nq, ni, sq, si, p, M) x)) := by
  by_cases h : x < 0
  · exact Or.inr ⟨fun post k => br_t h k, fun _ _ _ _ _ _ post k => br_t h k⟩
  · by_cases h2 : 255 < x
    · exact Or.inr ⟨fun post k => br_f h (br_t h2 k), fun _ _ _ _ _ _ post k => br_f h (br_t h2 k)⟩
    · exact Or.inl ⟨fun post k => br_f h (br_f h2 k), fun _ _ _ _ _ _ post k => br_f h (br_f h2 k)⟩
theorem bj_1 : ¬ (1 : Int32) = 0 := by decide
theorem bx_bk {b : Nat} (hb : b < 4) {post : Int32 → Prop} (k : post 1) : wpX_isBlock post (nI b) :=
  br_f (nI_pos (by omega)) (br_f (nI_ge (b := 4) hb (by decide)) k)
theorem bj_bl (x : Int32) : (∃ b : Nat, b < 4 ∧ x = nI b) ∨ ((∀ post : Int32 → Prop, post 0 → wpX_isBlock post x) ∧ ((x < 0) ∨ (¬ x < 0 ∧ 3 < x))) := by
  rcases bj_rg x 4 (by decide) (by decide) with h | ⟨h0, h1, h2⟩ | ⟨b, hb, rfl⟩
  · exact Or.inr ⟨fun post k => br_t h k, Or.inl h⟩
  · exact Or.inr ⟨fun post k => br_f h0 (br_t h1 k), Or.inr ⟨h0, h2⟩⟩
  · exact Or.inl ⟨b, hb, rfl⟩
theorem bx_ng {g : Int32} {post : Int32 → Prop} (k : post (bj_cl g)) : wpX_nearestGrey post g := by
  unfold bj_cl at k
  by_cases h1 : g < 0
  · rw [if_pos h1] at k
    exact br_f (Int32.not_le.mpr h1) k
  · rw [if_neg h1] at k
    by_cases h2 : 255 < g
    · rw [if_pos h2] at k
      exact br_t (Int32.not_lt.mp h1) (br_f (Int32.not_le.mpr h2) k)
    · rw [if_neg h2] at k
      exact br_t (Int32.not_lt.mp h1) (br_t (Int32.not_lt.mp h2) k)
theorem by_ng {g : Int32} {post : Int32 → Prop} (k : post (bj_cl g)) : wpY_clipped post (nq, ni, sq, si, p, M) g := by
  unfold bj_cl at k
  by_cases h1 : g < 0
  · rw [if_pos h1] at k
    exact br_f (Int32.not_le.mpr h1) k
  · rw [if_neg h1] at k
    by_cases h2 : 255 < g
    · rw [if_pos h2] at k
      exact br_t (Int32.not_lt.mp h1) (br_f (Int32.not_le.mpr h2) k)
    · rw [if_neg h2] at k
      exact br_t (Int32.not_lt.mp h1) (br_t (Int32.not_lt.mp h2) k)
/-! the waves -/
theorem bj_ch {post : Int32 → Prop} {t : Nat} (c : Nat) {li x y : Int32} {B : Prop} (hl : li = nI c) (ht : t < 2147483648) (hc : c < 2147483648) (k : post (if t = c then x else y)) (f : post y → B) : (nI t = li → post x) ∧ (¬ nI t = li → B) := by
  subst hl
  rw [nI_eq ht hc]
  exact ⟨fun h => (by rw [if_pos h] at k; exact k), fun h => f (by rw [if_neg h] at k; exact k)⟩
theorem by_wv {t : Nat} (ht : t ≤ 8) {post : Int32 → Prop} (k : post (bj_c t)) : wpY_wave post (nq, ni, sq, si, p, M) (nI t) := by
  have hb : t < 2147483648 := by omega
  exact bj_ch 0 rfl hb (by decide) k fun k => bj_ch 1 rfl hb (by decide) k fun k => bj_ch 2 rfl hb (by decide) k fun k => bj_ch 3 rfl hb (by decide) k fun k => bj_ch 4 rfl hb (by decide) k fun k => bj_ch 5 rfl hb (by decide) k fun k => bj_ch 6 rfl hb (by decide) k fun k => bj_ch 7 rfl hb (by decide) k fun k => k
theorem bx_wv {t : Nat} (ht : t ≤ 8) {post : Int32 → Prop} (k : post (bj_c t)) : wpX_quarterWave post (nI t) := by
  have hb : t < 2147483648 := by omega
  refine br_f (nI_pos hb) (pk_lt 7 t (fun h => ?_) (fun _ => ?_))
  · obtain rfl : t = 8 := by omega
    exact k
  · exact bj_ch 0 rfl hb (by decide) k fun k => bj_ch 1 rfl hb (by decide) k fun k => bj_ch 2 rfl hb (by decide) k fun k => bj_ch 3 rfl hb (by decide) k fun k => bj_ch 4 rfl hb (by decide) k fun k => bj_ch 5 rfl hb (by decide) k fun k => bj_ch 6 rfl hb (by decide) k fun k => bj_ch 7 rfl hb (by decide) k fun _ => trivial
theorem bj_Cw {Wv : (Int32 → Prop) → Int32 → Prop} (hW : ∀ (post : Int32 → Prop) (t : Nat), t ≤ 8 → post (bj_c t) → Wv post (nI t)) {post : Int32 → Prop} {t : Nat} (ht : t < 32) (k : post (bj_C t)) :
    (8 < nI t → ((16 < nI t → ((24 < nI t → Wv (fun r => post r) (32 - nI t)) ∧ (¬ 24 < nI t → Wv (fun r => post (-r)) (nI t - 16)))) ∧ (¬ 16 < nI t → Wv (fun r => post (-r)) (16 - nI t)))) ∧ (¬ 8 < nI t → Wv (fun r => post r) (nI t)) := by
  unfold bj_C at k
  refine pk_lt 8 t (fun h8 => pk_lt 16 t (fun h16 => pk_lt 24 t (fun h24 => ?_) (fun h24 => ?_)) (fun h16 => ?_)) (fun h8 => ?_)
  · rw [if_neg (by omega), if_neg (by omega), if_neg (by omega)] at k
    rw [show (32 : Int32) - nI t = nI (32 - t) from pk_sub (a := 32) (by omega)]
    exact hW _ _ (by omega) k
  · rw [if_neg (by omega), if_neg (by omega), if_pos (by omega)] at k
    rw [show nI t - (16 : Int32) = nI (t - 16) from pk_sub (b := 16) (by omega)]
    exact hW _ _ (by omega) k
  · rw [if_neg (by omega), if_pos (by omega)] at k
    rw [show (16 : Int32) - nI t = nI (16 - t) from pk_sub (a := 16) (by omega)]
    exact hW _ _ (by omega) k
  · rw [if_pos (by omega)] at k
    exact hW _ _ (by omega) k
theorem bx_wa {t : Nat} (ht : t < 32) {post : Int32 → Prop} (k : post (bj_C t)) : wpX_waveAt post (nI t) :=
  bj_Cw (Wv := wpX_quarterWave) (fun _ _ h k => bx_wv h k) ht k
theorem by_k {u i : Nat} (hu : u < 8) (hi : i < 8) {post : Int32 → Prop} (k : post (bj_K u i)) : wpY_k post (nq, ni, sq, si, p, M) (nI u) (nI i) :=
  ⟨by decide, nm_r (bj_t_eq hu hi) (bj_Cw (Wv := fun post x => wpY_wave post (nq, ni, sq, si, p, M) x) (fun _ _ h k => by_wv h k) (Nat.mod_lt _ (by decide)) k)⟩
theorem bx_st {q u v : Nat} {post : Int32 → Prop} (k : post (nI (bj_D q u v))) : wpX_stepAt post (nq, ni, nI q, si, p, w, L) (nI u) (nI v) := by
  rw [← bj_D_eq] at k
  exact k
theorem by_st {q u v : Nat} {post : Int32 → Prop} (k : post (nI (bj_D q u v))) : wpY_step post (nq, ni, sq, si, p, M) (nI q) (nI u) (nI v) := by
  rw [← bj_D_eq] at k
  exact k
theorem bx_sf {u : Nat} (hu : u < 8) {post : Int32 → Prop} (k : post (bj_e u)) : wpX_shareOf post (nI u) :=
  bj_ch 0 rfl (by omega) (by decide) k fun k => k
theorem bx_rl {s d : Int32} (h : ¬ 2 * d = 0) {post : Int32 → Prop} (k : post (bj_rd s d)) : wpX_roundedLevel post s d := by
  unfold bj_rd bj_ab at k
  by_cases h1 : s < 0
  · rw [if_pos h1, if_pos h1] at k
    exact br_f (Int32.not_le.mpr h1) ⟨h, nm_e (br_f (Int32.not_le.mpr h1) k)⟩
  · rw [if_neg h1, if_neg h1] at k
    exact br_t (Int32.not_lt.mp h1) ⟨h, nm_e (br_t (Int32.not_lt.mp h1) k)⟩
theorem by_rl {s d : Int32} (h : ¬ 2 * d = 0) {post : Int32 → Prop} (k : post (bj_rd s d)) : (0 ≤ s → wY_levelOf_125 post s d s nq ni sq si p M) ∧ (¬ 0 ≤ s → wY_levelOf_125 post s d (-s) nq ni sq si p M) := by
  unfold bj_rd bj_ab at k
  by_cases h1 : s < 0
  · rw [if_pos h1, if_pos h1] at k
    exact br_f (Int32.not_le.mpr h1) ⟨h, nm_e (br_f (Int32.not_le.mpr h1) k)⟩
  · rw [if_neg h1, if_neg h1] at k
    exact br_t (Int32.not_lt.mp h1) ⟨h, nm_e (br_t (Int32.not_lt.mp h1) k)⟩
end
end
section
/-! the picture: fill, ramp, weave, the constructors -/
section
variable {nq ni sq si : Int32} {p w L M : Nat → Int32}
def bj_fl (p : Nat → Int32) (x0 y0 : Nat) (g : Int32) : Nat → Int32 := fun m => if x0 ≤ m % 16 ∧ y0 ≤ m / 16 then g else p m
theorem bj_fl_at {x0 y0 x y : Nat} {g : Int32} (hx : x < 16) (h0 : x0 ≤ x) (h1 : y0 ≤ y) : g = bj_fl p x0 y0 g (16 * y + x) := by
  show g = if x0 ≤ (16 * y + x) % 16 ∧ y0 ≤ (16 * y + x) / 16 then g else p (16 * y + x)
  rw [bj_q1 hx, bj_q2 hx, if_pos ⟨h0, h1⟩]
theorem bj_fl_row {x0 y0 y : Nat} {g : Int32} (hx : x0 < 16) : bj_P (bj_fl p x0 y0 g) p (16 * y) = bj_P (bj_fl p x0 y0 g) p (16 * y + x0) :=
  bj_P_sk (by omega) (fun m h1 h2 => if_neg (fun z => absurd z.1 (by omega)))
theorem bj_fl_top {x0 y0 : Nat} {g : Int32} : p = bj_P (bj_fl p x0 y0 g) p (16 * y0) :=
  (bj_P_0 (bj_fl p x0 y0 g) p).symm.trans (bj_P_sk (by omega) (fun m h1 h2 => if_neg (fun z => absurd z.2 (by omega))))
theorem bx_fill_in {post : Int32 → SX → Prop} {J : Int32 → (Nat → Int32) → (Nat → Int32) → (Nat → Int32) → Prop} {x0 y0 y : Nat} {g : Int32} (hy : y < 16) (h1 : y0 ≤ y)
    (hJ : J (nI (y + 1)) (bj_P (bj_fl p x0 y0 g) p (16 * (y + 1))) w L) :
    ∀ d x : Nat, x + d = 16 → x0 ≤ x → wX_fill_31 post J (nI x0) g (nI y) nq ni sq si (d + 1) (nI x) (bj_P (bj_fl p x0 y0 g) p (16 * y + x)) w L := by
  intro d
  induction d with
  | zero =>
    intro x hx h0
    obtain rfl : x = 16 := by omega
    exact br_t (nI_le (a := 16) (b := 16) (by omega) (by decide)) (nm_r (nI_1 y) hJ)
  | succ d ih =>
    intro x hx h0
    exact br_f (nI_ge (b := 16) (by omega) (by decide)) ⟨pk_in (16 * y + x) 256 (by omega) (bj_ix1 y x), nm_r (bj_P_w (bj_ix1 y x) (by omega) (bj_fl_at (by omega) h0 h1)) (nm_r (nI_1 x) (ih (x + 1) (by omega) (by omega)))⟩
theorem bx_fill_out {post : Int32 → SX → Prop} {x0 y0 : Nat} {g : Int32} (hx0 : x0 < 16) (k : post 0 (nq, ni, sq, si, bj_P (bj_fl p x0 y0 g) p 256, w, L)) :
    ∀ d y : Nat, y + d = 16 → y0 ≤ y → wX_fill_21 post (nI x0) g nq ni sq si (d + 1) (nI y) (bj_P (bj_fl p x0 y0 g) p (16 * y)) w L := by
  intro d
  induction d with
  | zero =>
    intro y hy h0
    obtain rfl : y = 16 := by omega
    exact br_t (nI_le (a := 16) (b := 16) (by omega) (by decide)) k
  | succ d ih =>
    intro y hy h0
    refine br_f (nI_ge (b := 16) (by omega) (by decide)) ⟨16 - x0 + 1, ?_⟩
    rw [bj_fl_row hx0]
    exact bx_fill_in (by omega) h0 (ih (y + 1) (by omega) (by omega)) (16 - x0) x0 (by omega) (by omega)
theorem by_fill_in {post : Int32 → SY → Prop} {J : Int32 → (Nat → Int32) → (Nat → Int32) → Prop} {x0 y0 y : Nat} {g : Int32} (hy : y < 16) (h1 : y0 ≤ y)
    (hJ : J (nI (y + 1)) (bj_P (bj_fl p x0 y0 g) p (16 * (y + 1))) M) :
    ∀ d x : Nat, x + d = 16 → x0 ≤ x → wY_fill_33 post J (nI x0) g (nI y) nq ni sq si (d + 1) (nI x) (bj_P (bj_fl p x0 y0 g) p (16 * y + x)) M := by
  intro d
  induction d with
  | zero =>
    intro x hx h0
    obtain rfl : x = 16 := by omega
    exact br_t (nI_le (a := 16) (b := 16) (by omega) (by decide)) (nm_r (nI_1 y) hJ)
  | succ d ih =>
    intro x hx h0
    exact br_f (nI_ge (b := 16) (by omega) (by decide)) ⟨pk_in (16 * y + x) 256 (by omega) (bj_ix1 y x), nm_r (bj_P_w (bj_ix1 y x) (by omega) (bj_fl_at (by omega) h0 h1)) (nm_r (nI_1 x) (ih (x + 1) (by omega) (by omega)))⟩
theorem by_fill_out {post : Int32 → SY → Prop} {x0 y0 : Nat} {g : Int32} (hx0 : x0 < 16) (k : post 0 (nq, ni, sq, si, bj_P (bj_fl p x0 y0 g) p 256, M)) :
    ∀ d y : Nat, y + d = 16 → y0 ≤ y → wY_fill_23 post (nI x0) g nq ni sq si (d + 1) (nI y) (bj_P (bj_fl p x0 y0 g) p (16 * y)) M := by
  intro d
  induction d with
  | zero =>
    intro y hy h0
    obtain rfl : y = 16 := by omega
    exact br_t (nI_le (a := 16) (b := 16) (by omega) (by decide)) k
  | succ d ih =>
    intro y hy h0
    refine br_f (nI_ge (b := 16) (by omega) (by decide)) ⟨16 - x0 + 1, ?_⟩
    rw [bj_fl_row hx0]
    exact by_fill_in (by omega) h0 (ih (y + 1) (by omega) (by omega)) (16 - x0) x0 (by omega) (by omega)
/-! ramp -/
def bj_rp (c a b : Int32) : Nat → Int32 := fun m => bj_cl (c + a * nI (m % 16) + b * nI (m / 16))
theorem bj_rp_at {c a b : Int32} {x y : Nat} (hx : x < 16) : bj_cl (c + a * nI x + b * nI y) = bj_rp c a b (16 * y + x) := by
  show _ = bj_cl (c + a * nI ((16 * y + x) % 16) + b * nI ((16 * y + x) / 16))
  rw [bj_q1 hx, bj_q2 hx]
theorem bx_ramp_in {post : Int32 → SX → Prop} {J : Int32 → (Nat → Int32) → (Nat → Int32) → (Nat → Int32) → Prop} {c a b : Int32} {y : Nat} (hy : y < 16)
    (hJ : J (nI (y + 1)) (bj_P (bj_rp c a b) p (16 * (y + 1))) w L) :
    ∀ d x : Nat, x + d = 16 → wX_ramp_37 post J c a b (nI y) nq ni sq si (d + 1) (nI x) (bj_P (bj_rp c a b) p (16 * y + x)) w L := by
  intro d
  induction d with
  | zero =>
    intro x hx
    obtain rfl : x = 16 := by omega
    exact br_t (nI_le (a := 16) (b := 16) (by omega) (by decide)) (nm_r (nI_1 y) hJ)
  | succ d ih =>
    intro x hx
    exact br_f (nI_ge (b := 16) (by omega) (by decide)) (bx_ng ⟨pk_in (16 * y + x) 256 (by omega) (bj_ix1 y x), nm_r (bj_P_w (bj_ix1 y x) (by omega) (bj_rp_at (by omega))) (nm_r (nI_1 x) (ih (x + 1) (by omega)))⟩)
theorem bx_ramp_out {post : Int32 → SX → Prop} {c a b : Int32} (k : post 0 (nq, ni, sq, si, bj_P (bj_rp c a b) p 256, w, L)) :
    ∀ d y : Nat, y + d = 16 → wX_ramp_27 post c a b nq ni sq si (d + 1) (nI y) (bj_P (bj_rp c a b) p (16 * y)) w L := by
  intro d
  induction d with
  | zero =>
    intro y hy
    obtain rfl : y = 16 := by omega
    exact br_t (nI_le (a := 16) (b := 16) (by omega) (by decide)) k
  | succ d ih =>
    intro y hy
    exact br_f (nI_ge (b := 16) (by omega) (by decide)) ⟨16 + 1, bx_ramp_in (by omega) (ih (y + 1) (by omega)) 16 0 rfl⟩
theorem by_ramp {post : Int32 → SY → Prop} {c a b : Int32} (k : post 0 (nq, ni, sq, si, bj_P (bj_rp c a b) p 256, M)) :
    ∀ d n : Nat, n + d = 256 → wY_ramp_38 post c a b nq ni sq si (d + 1) (nI n) (bj_P (bj_rp c a b) p n) M := by
  intro d
  induction d with
  | zero =>
    intro n hn
    obtain rfl : n = 256 := by omega
    exact br_t (nI_le (a := 256) (b := 256) (by omega) (by decide)) k
  | succ d ih =>
    intro n hn
    refine br_f (nI_ge (b := 256) (by omega) (by decide)) (by_ng ⟨pk_in n 256 (by omega) rfl, nm_r (bj_P_w rfl (by omega) ?_) (nm_r (nI_1 n) (ih (n + 1) (by omega)))⟩)
    rw [bj_a15 (by omega), bj_r4 (by omega)]
    rfl
/-! weave -/
def bj_wv (p : Nat → Int32) (s : Nat) : Nat → Int32 := fun m => if (m % 16 / 2 ^ s + m / 16 / 2 ^ s) % 2 = 1 then 255 - p m else p m
theorem bj_wv_c {x y s : Nat} (hx : x < 16) (hy : y < 16) (hs : s < 4) : ((nI x >>> (nI s &&& 31)) + (nI y >>> (nI s &&& 31))) &&& 1 = nI ((x / 2 ^ s + y / 2 ^ s) % 2) := by
  have h1 : x / 2 ^ s ≤ x := Nat.div_le_self _ _
  have h2 : y / 2 ^ s ≤ y := Nat.div_le_self _ _
  rw [bj_rs (by omega) hs, bj_rs (by omega) hs, nI_add, bj_a1 (by omega)]
theorem bj_wv_d {n s : Nat} (hn : n < 256) (hs : s < 4) : (((nI n &&& 15) >>> (nI s &&& 31)) &&& 1) + (((nI n >>> ((4 : Int32) &&& 31)) >>> (nI s &&& 31)) &&& 1) = nI (n % 16 / 2 ^ s % 2 + n / 16 / 2 ^ s % 2) := by
  have h1 : n % 16 / 2 ^ s ≤ n % 16 := Nat.div_le_self _ _
  have h2 : n / 16 / 2 ^ s ≤ n / 16 := Nat.div_le_self _ _
  rw [bj_a15 hn, bj_r4 hn, bj_rs (by omega) hs, bj_rs (by omega) hs, bj_a1 (by omega), bj_a1 (by omega), nI_add]
theorem bj_wv_t {n s : Nat} (h : (n % 16 / 2 ^ s + n / 16 / 2 ^ s) % 2 = 1) : 255 - p n = bj_wv p s n := (if_pos h).symm
theorem bj_wv_f {n s : Nat} (h : ¬ (n % 16 / 2 ^ s + n / 16 / 2 ^ s) % 2 = 1) : bj_P (bj_wv p s) p n = bj_P (bj_wv p s) p (n + 1) :=
  bj_P_sk (by omega) (fun m h1 h2 => by
    obtain rfl : m = n := by omega
    exact if_neg h)
theorem bj_wv_r {n s : Nat} {i : Int32} (hi : i = nI n) (hn : n < 256) (h : (n % 16 / 2 ^ s + n / 16 / 2 ^ s) % 2 = 1) : 255 - (bj_P (bj_wv p s) p n) i.toNatClampNeg = bj_wv p s n := by
  rw [bj_rd_at (a := bj_P (bj_wv p s) p n) hi (by omega), bj_P_ge (Nat.le_refl n)]
  exact bj_wv_t h
theorem bx_weave_in {post : Int32 → SX → Prop} {J : Int32 → (Nat → Int32) → (Nat → Int32) → (Nat → Int32) → Prop} {s y : Nat} (hs : s < 4) (hy : y < 16)
    (hJ : J (nI (y + 1)) (bj_P (bj_wv p s) p (16 * (y + 1))) w L) :
    ∀ d x : Nat, x + d = 16 → wX_weave_22 post J (nI s) (nI y) nq ni sq si (d + 1) (nI x) (bj_P (bj_wv p s) p (16 * y + x)) w L := by
  intro d
  induction d with
  | zero =>
    intro x hx
    obtain rfl : x = 16 := by omega
    exact br_t (nI_le (a := 16) (b := 16) (by omega) (by decide)) (nm_r (nI_1 y) hJ)
  | succ d ih =>
    intro x hx
    have hx' : x < 16 := by omega
    refine br_f (nI_ge (b := 16) (by omega) (by decide)) (pk_eq ((x / 2 ^ s + y / 2 ^ s) % 2) 1 (fun h => ?_) (fun h => ?_) (bj_wv_c hx' hy hs))
    · have h' : ((16 * y + x) % 16 / 2 ^ s + (16 * y + x) / 16 / 2 ^ s) % 2 = 1 := by rw [bj_q1 hx', bj_q2 hx']; exact h
      exact ⟨pk_in (16 * y + x) 256 (by omega) (bj_ix1 y x), pk_in (16 * y + x) 256 (by omega) (bj_ix1 y x), nm_r (bj_P_w (bj_ix1 y x) (by omega) (bj_wv_r (bj_ix1 y x) (by omega) h')) (nm_r (nI_1 x) (ih (x + 1) (by omega)))⟩
    · have h' : ¬ ((16 * y + x) % 16 / 2 ^ s + (16 * y + x) / 16 / 2 ^ s) % 2 = 1 := by rw [bj_q1 hx', bj_q2 hx']; exact h
      rw [bj_wv_f h']
      exact nm_r (nI_1 x) (ih (x + 1) (by omega))
theorem bx_weave_out {post : Int32 → SX → Prop} {s : Nat} (hs : s < 4) (k : post 0 (nq, ni, sq, si, bj_P (bj_wv p s) p 256, w, L)) :
    ∀ d y : Nat, y + d = 16 → wX_weave_14 post (nI s) nq ni sq si (d + 1) (nI y) (bj_P (bj_wv p s) p (16 * y)) w L := by
  intro d
  induction d with
  | zero =>
    intro y hy
    obtain rfl : y = 16 := by omega
    exact br_t (nI_le (a := 16) (b := 16) (by omega) (by decide)) k
  | succ d ih =>
    intro y hy
    exact br_f (nI_ge (b := 16) (by omega) (by decide)) ⟨16 + 1, bx_weave_in hs (by omega) (ih (y + 1) (by omega)) 16 0 rfl⟩
theorem by_weave {post : Int32 → SY → Prop} {s : Nat} (hs : s < 4) (k : post 0 (nq, ni, sq, si, bj_P (bj_wv p s) p 256, M)) :
    ∀ d n : Nat, n + d = 256 → wY_weave_14 post (nI s) nq ni sq si (d + 1) (nI n) (bj_P (bj_wv p s) p n) M := by
  intro d
  induction d with
  | zero =>
    intro n hn
    obtain rfl : n = 256 := by omega
    exact br_t (nI_le (a := 256) (b := 256) (by omega) (by decide)) k
  | succ d ih =>
    intro n hn
    refine br_f (nI_ge (b := 256) (by omega) (by decide)) (nm_r (bj_wv_d (by omega) hs) (pk_eq (n % 16 / 2 ^ s % 2 + n / 16 / 2 ^ s % 2) 1 (fun h => ?_) (fun h => ?_)))
    · have h' : (n % 16 / 2 ^ s + n / 16 / 2 ^ s) % 2 = 1 := by omega
      exact ⟨pk_in n 256 (by omega) rfl, pk_in n 256 (by omega) rfl, nm_r (bj_P_w rfl (by omega) (bj_wv_r rfl (by omega) h')) (nm_r (nI_1 n) (ih (n + 1) (by omega)))⟩
    · have h' : ¬ (n % 16 / 2 ^ s + n / 16 / 2 ^ s) % 2 = 1 := by omega
      rw [bj_wv_f h']
      exact nm_r (nI_1 n) (ih (n + 1) (by omega))
/-! the constructors -/
def bj_kt : Nat → Int32 := fun m => bj_K (m / 8) (m % 8)
theorem bj_kt_at {u i : Nat} (hi : i < 8) : bj_C ((2 * i + 1) * u % 32) = bj_kt (8 * u + i) := by
  show bj_K u i = bj_K ((8 * u + i) / 8) ((8 * u + i) % 8)
  rw [show (8 * u + i) / 8 = u from by omega, show (8 * u + i) % 8 = i from by omega]
theorem bx_init_in {post : SX → Prop} {J : Int32 → (Nat → Int32) → (Nat → Int32) → (Nat → Int32) → Prop} {u : Nat} (hu : u < 8) (hJ : J (nI (u + 1)) p (bj_P bj_kt w (8 * (u + 1))) L) :
    ∀ d i : Nat, i + d = 8 → wX_init_84 post J (nI u) nq ni sq si (d + 1) (nI i) p (bj_P bj_kt w (8 * u + i)) L := by
  intro d
  induction d with
  | zero =>
    intro i hi
    obtain rfl : i = 8 := by omega
    exact br_t (nI_le (a := 8) (b := 8) (by omega) (by decide)) (nm_r (nI_1 u) hJ)
  | succ d ih =>
    intro i hi
    refine br_f (nI_ge (b := 8) (by omega) (by decide)) ⟨by decide, ?_⟩
    rw [bj_t_eq hu (by omega)]
    exact bx_wa (Nat.mod_lt _ (by decide)) ⟨pk_in (8 * u + i) 64 (by omega) (bj_ix3 u i), nm_r (bj_P_w (bj_ix3 u i) (by omega) (bj_kt_at (by omega))) (nm_r (nI_1 i) (ih (i + 1) (by omega)))⟩
theorem bx_init_mid {post : SX → Prop} (k : post (nq, ni, sq, si, p, bj_P bj_kt w 64, L)) :
    ∀ d u : Nat, u + d = 8 → wX_init_76 post nq ni sq si (d + 1) (nI u) p (bj_P bj_kt w (8 * u)) L := by
  intro d
  induction d with
  | zero =>
    intro u hu
    obtain rfl : u = 8 := by omega
    exact br_t (nI_le (a := 8) (b := 8) (by omega) (by decide)) k
  | succ d ih =>
    intro u hu
    exact br_f (nI_ge (b := 8) (by omega) (by decide)) ⟨8 + 1, bx_init_in (by omega) (ih (u + 1) (by omega)) 8 0 rfl⟩
theorem bx_init_out {post : SX → Prop} (k : post (nq, ni, sq, si, bj_P (fun _ => 128) p 256, bj_P bj_kt w 64, L)) :
    ∀ d n : Nat, n + d = 256 → wX_init_52 post nq ni sq si (d + 1) (nI n) (bj_P (fun _ => 128) p n) w L := by
  intro d
  induction d with
  | zero =>
    intro n hn
    obtain rfl : n = 256 := by omega
    have h := bx_init_mid k 8 0 rfl
    rw [Nat.mul_zero, bj_P_0] at h
    exact br_t (nI_le (a := 256) (b := 256) (by omega) (by decide)) ⟨8 + 1, h⟩
  | succ d ih =>
    intro n hn
    exact br_f (nI_ge (b := 256) (by omega) (by decide)) ⟨pk_in n 256 (by omega) rfl, nm_r (bj_P_w rfl (by omega) rfl) (nm_r (nI_1 n) (ih (n + 1) (by omega)))⟩
theorem by_init {post : SY → Prop} (k : post (1, 4, 1, 4, bj_P (fun _ => 128) p 256, M)) :
    ∀ d n : Nat, n + d = 256 → wY_init_24 post nq ni sq si (d + 1) (nI n) (bj_P (fun _ => 128) p n) M := by
  intro d
  induction d with
  | zero =>
    intro n hn
    obtain rfl : n = 256 := by omega
    exact br_t (nI_le (a := 256) (b := 256) (by omega) (by decide)) k
  | succ d ih =>
    intro n hn
    exact br_f (nI_ge (b := 256) (by omega) (by decide)) ⟨pk_in n 256 (by omega) rfl, nm_r (bj_P_w rfl (by omega) rfl) (nm_r (nI_1 n) (ih (n + 1) (by omega)))⟩
end
end
section
/-! the levels: counts, store, lose -/
section
variable {nq ni sq si : Int32} {p w L M : Nat → Int32}
theorem bj_s0 (A : Int32) (f : Nat → Int32) : A + bj_s f 0 = A := Int32.add_zero A
theorem bj_S0 (A : Int64) (f : Nat → Int64) : A + bj_S f 0 = A := Int64.add_zero A
/-! counts -/
def bj_f (L : Nat → Int32) (b : Nat) : Nat → Int32 := fun k => bj_i (L (64 * b + k))
theorem bj_f_0 {b k : Nat} {i : Int32} (hi : i = nI (64 * b + k)) (hk : 64 * b + k < 256) (h : L i.toNatClampNeg = 0) : bj_s (bj_f L b) k = bj_s (bj_f L b) (k + 1) := by
  rw [bj_rd_at (a := L) hi (by omega)] at h
  show _ = bj_s (bj_f L b) k + (if L (64 * b + k) = 0 then (0 : Int32) else 1)
  rw [if_pos h, Int32.add_zero]
theorem bj_f_1 {b k : Nat} {i : Int32} (hi : i = nI (64 * b + k)) (hk : 64 * b + k < 256) (h : ¬ L i.toNatClampNeg = 0) : bj_s (bj_f L b) k + 1 = bj_s (bj_f L b) (k + 1) := by
  rw [bj_rd_at (a := L) hi (by omega)] at h
  show _ = bj_s (bj_f L b) k + (if L (64 * b + k) = 0 then (0 : Int32) else 1)
  rw [if_neg h]
theorem bx_cn_lp {b : Nat} (hb : b < 4) {post : Int32 → Prop} (k : post (bj_n L b)) :
    ∀ d i : Nat, i + d = 64 → wX_countLevels_4 post (nI b) nq ni sq si p w L (d + 1) (bj_s (bj_f L b) i) (nI i) := by
  intro d
  induction d with
  | zero =>
    intro i hi
    obtain rfl : i = 64 := by omega
    exact br_t (nI_le (a := 64) (b := 64) (by omega) (by decide)) k
  | succ d ih =>
    intro i hi
    refine br_f (nI_ge (b := 64) (by omega) (by decide)) ⟨pk_in (64 * b + i) 256 (by omega) (bj_ix4 b i), br_c (fun h => ?_) (fun h => ?_)⟩
    · rw [bj_f_0 (bj_ix4 b i) (by omega) h]
      exact nm_r (nI_1 i) (ih (i + 1) (by omega))
    · exact nm_r (bj_f_1 (bj_ix4 b i) (by omega) h) (nm_r (nI_1 i) (ih (i + 1) (by omega)))
theorem bx_cn {b : Nat} (hb : b < 4) {post : Int32 → Prop} (k : post (bj_n L b)) : wpX_countLevels post (nq, ni, sq, si, p, w, L) (nI b) :=
  ⟨64 + 1, bx_cn_lp hb k 64 0 rfl⟩
theorem by_cn_lp {b : Nat} (hb : b < 4) {post : Int32 → Prop} (k : post (bj_n M b)) :
    ∀ d i : Nat, i + d = 64 → wY_weight_19 post (nI b) nq ni sq si p M (d + 1) (bj_s (bj_f M b) i) (nI (64 * b + i)) := by
  intro d
  induction d with
  | zero =>
    intro i hi
    obtain rfl : i = 64 := by omega
    exact pk_le (64 * b + 64) (64 * b + 64) (fun _ => k) (fun h => absurd h (by omega)) (bj_ix4 b 64)
  | succ d ih =>
    intro i hi
    refine pk_le (64 * b + 64) (64 * b + i) (fun h => absurd h (by omega)) (fun _ => ⟨pk_in (64 * b + i) 256 (by omega) rfl, br_c (fun h => ?_) (fun h => ?_)⟩) (bj_ix4 b 64)
    · rw [bj_f_0 rfl (by omega) h]
      exact nm_r (nI_1 (64 * b + i)) (ih (i + 1) (by omega))
    · exact nm_r (bj_f_1 rfl (by omega) h) (nm_r (nI_1 (64 * b + i)) (ih (i + 1) (by omega)))
theorem by_cn {b : Nat} (hb : b < 4) {post : Int32 → Prop} (k : post (bj_n M b)) : wpY_weight post (nq, ni, sq, si, p, M) (nI b) :=
  br_f (nI_pos (by omega)) (br_t (nI_le (b := 3) (by omega) (by decide)) (nm_r (e' := nI (64 * b + 0)) (pk_mul 64 b) ⟨64 + 1, by_cn_lp hb k 64 0 rfl⟩))
/-! the sum S -/
def bj_g (p : Nat → Int32) (b u v j : Nat) : Nat → Int32 := fun i => (p (128 * (b / 2) + 8 * (b % 2) + 16 * j + i) - 128) * bj_K u i * bj_K v j
theorem bj_ix8 (b j i : Nat) : (16 : Int32) * (nI (8 * (b / 2)) + nI j) + nI (8 * (b % 2)) + nI i = nI (128 * (b / 2) + 8 * (b % 2) + 16 * j + i) :=
  (bj_ix5 (8 * (b / 2)) j (8 * (b % 2)) i).trans (congrArg nI (by omega))
theorem bx_ws_in {post : Int32 → Prop} {J : Int32 → Int32 → Prop} {b u v j : Nat} {A : Int32} (hw : bj_Ww w) (hb : b < 4) (hu : u < 8) (hv : v < 8) (hj : j < 8)
    (hJ : J (A + bj_s (bj_g p b u v j) 8) (nI (j + 1))) :
    ∀ d i : Nat, i + d = 8 → wX_waveSum_32 post J (nI u) (nI v) (nI (8 * (b % 2))) (nI (8 * (b / 2))) (nI j) nq ni sq si p w L (d + 1) (A + bj_s (bj_g p b u v j) i) (nI i) := by
  intro d
  induction d with
  | zero =>
    intro i hi
    obtain rfl : i = 8 := by omega
    exact br_t (nI_le (a := 8) (b := 8) (by omega) (by decide)) (nm_r (nI_1 j) hJ)
  | succ d ih =>
    intro i hi
    have e : A + bj_s (bj_g p b u v j) i + (p (((16 : Int32) * (nI (8 * (b / 2)) + nI j)) + nI (8 * (b % 2)) + nI i).toNatClampNeg - 128) * w ((8 : Int32) * nI u + nI i).toNatClampNeg * w ((8 : Int32) * nI v + nI j).toNatClampNeg = A + bj_s (bj_g p b u v j) (i + 1) := by
      rw [bj_rd_at (a := p) (bj_ix8 b j i) (by omega), bj_rd_at (a := w) (bj_ix3 u i) (by omega), bj_rd_at (a := w) (bj_ix3 v j) (by omega), hw u i hu (by omega), hw v j hv hj, Int32.add_assoc]
      rfl
    exact br_f (nI_ge (b := 8) (by omega) (by decide)) ⟨pk_in (128 * (b / 2) + 8 * (b % 2) + 16 * j + i) 256 (by omega) (bj_ix8 b j i), nm_e ⟨pk_in (8 * u + i) 64 (by omega) (bj_ix3 u i), pk_in (8 * v + j) 64 (by omega) (bj_ix3 v j), nm_r e (nm_r (nI_1 i) (ih (i + 1) (by omega)))⟩⟩
theorem bx_ws_out {post : Int32 → Prop} {b u v : Nat} (hw : bj_Ww w) (hb : b < 4) (hu : u < 8) (hv : v < 8) (k : post (bj_sm p b u v)) :
    ∀ d j : Nat, j + d = 8 → wX_waveSum_22 post (nI u) (nI v) (nI (8 * (b % 2))) (nI (8 * (b / 2))) nq ni sq si p w L (d + 1) (bj_s (fun j => bj_s (bj_g p b u v j) 8) j) (nI j) := by
  intro d
  induction d with
  | zero =>
    intro j hj
    obtain rfl : j = 8 := by omega
    exact br_t (nI_le (a := 8) (b := 8) (by omega) (by decide)) k
  | succ d ih =>
    intro j hj
    have h := bx_ws_in (post := post) (nq := nq) (ni := ni) (sq := sq) (si := si) (L := L) hw hb hu hv (show j < 8 by omega) (ih (j + 1) (by omega)) 8 0 rfl
    rw [bj_s0] at h
    exact br_f (nI_ge (b := 8) (by omega) (by decide)) ⟨8 + 1, h⟩
theorem bx_ws {post : Int32 → Prop} {b u v : Nat} (hw : bj_Ww w) (hb : b < 4) (hu : u < 8) (hv : v < 8) (k : post (bj_sm p b u v)) : wpX_waveSum post (nq, ni, sq, si, p, w, L) (nI b) (nI u) (nI v) := by
  have e1 : (8 : Int32) * (nI b - nI b / 2 * 2) = nI (8 * (b % 2)) := by
    rw [bj_m2 (by omega)]
    exact pk_mul 8 _
  have e2 : (8 : Int32) * (nI b / 2) = nI (8 * (b / 2)) := by
    rw [bj_d2 (by omega)]
    exact pk_mul 8 _
  exact ⟨by decide, nm_r e1 ⟨by decide, nm_r e2 ⟨8 + 1, bx_ws_out hw hb hu hv k 8 0 rfl⟩⟩⟩
/-! storeBlock and store -/
theorem bj_gX_at {q b u v : Nat} (hu : u < 8) (hv : v < 8) : bj_rd (bj_sm p b u v) (nI (bj_D q u v)) = bj_gX p q (64 * b + 8 * u + v) := by
  show _ = bj_lv p q ((64 * b + 8 * u + v) / 64) ((64 * b + 8 * u + v) / 8 % 8) ((64 * b + 8 * u + v) % 8)
  rw [bj_q3 hu hv, bj_q4 hu hv, bj_q5 hu hv]
  rfl
theorem bx_sb_in {post : SX → Prop} {J : Int32 → (Nat → Int32) → (Nat → Int32) → (Nat → Int32) → Prop} {q b u : Nat} (hw : bj_Ww w) (h1 : 1 ≤ q) (hq : q ≤ 8) (hb : b < 4) (hu : u < 8)
    (hJ : J (nI (u + 1)) p w (bj_P (bj_gX p q) L (64 * b + 8 * u + 8))) :
    ∀ d v : Nat, v + d = 8 → wX_storeBlock_10 post J (nI b) (nI u) nq ni (nI q) si (d + 1) (nI v) p w (bj_P (bj_gX p q) L (64 * b + 8 * u + v)) := by
  intro d
  induction d with
  | zero =>
    intro v hv
    obtain rfl : v = 8 := by omega
    exact br_t (nI_le (a := 8) (b := 8) (by omega) (by decide)) (nm_r (nI_1 u) hJ)
  | succ d ih =>
    intro v hv
    have hv' : v < 8 := by omega
    exact br_f (nI_ge (b := 8) (by omega) (by decide)) (bx_ws hw hb hu hv' (bx_st (bx_rl (bj_2D0 h1 hq hu hv') ⟨pk_in (64 * b + 8 * u + v) 256 (by omega) (bj_ix2 b u v), nm_r (bj_P_w (bj_ix2 b u v) (by omega) (bj_gX_at hu hv')) (nm_r (nI_1 v) (ih (v + 1) (by omega)))⟩)))
theorem bx_sb_out {post : SX → Prop} {q b : Nat} (hw : bj_Ww w) (h1 : 1 ≤ q) (hq : q ≤ 8) (hb : b < 4) (k : post (nq, ni, nI q, si, p, w, bj_P (bj_gX p q) L (64 * (b + 1)))) :
    ∀ d u : Nat, u + d = 8 → wX_storeBlock_2 post (nI b) nq ni (nI q) si (d + 1) (nI u) p w (bj_P (bj_gX p q) L (64 * b + 8 * u)) := by
  intro d
  induction d with
  | zero =>
    intro u hu
    obtain rfl : u = 8 := by omega
    exact br_t (nI_le (a := 8) (b := 8) (by omega) (by decide)) k
  | succ d ih =>
    intro u hu
    have hJ := ih (u + 1) (by omega)
    rw [show 64 * b + 8 * (u + 1) = 64 * b + 8 * u + 8 from by omega] at hJ
    exact br_f (nI_ge (b := 8) (by omega) (by decide)) ⟨8 + 1, bx_sb_in hw h1 hq hb (by omega) hJ 8 0 rfl⟩
theorem bx_sb {post : SX → Prop} {q b : Nat} (hw : bj_Ww w) (h1 : 1 ≤ q) (hq : q ≤ 8) (hb : b < 4) (k : post (nq, ni, nI q, si, p, w, bj_P (bj_gX p q) L (64 * (b + 1)))) : wpX_storeBlock post (nq, ni, nI q, si, p, w, bj_P (bj_gX p q) L (64 * b)) (nI b) :=
  ⟨8 + 1, bx_sb_out hw h1 hq hb k 8 0 rfl⟩
theorem bx_store_lp {post : Int32 → SX → Prop} {q : Nat} (hw : bj_Ww w) (h1 : 1 ≤ q) (hq : q ≤ 8) (k : post (bj_s (fun b => bj_n (bj_gX p q) b) 4) (nq, ni, nI q, si, p, w, bj_P (bj_gX p q) L 256)) :
    ∀ d b : Nat, b + d = 4 → wX_store_20 post (d + 1) (bj_s (fun b => bj_n (bj_gX p q) b) b) (nI b) nq ni (nI q) si p w (bj_P (bj_gX p q) L (64 * b)) := by
  intro d
  induction d with
  | zero =>
    intro b hb
    obtain rfl : b = 4 := by omega
    exact br_t (nI_le (a := 4) (b := 4) (by omega) (by decide)) k
  | succ d ih =>
    intro b hb
    have e : bj_s (fun b => bj_n (bj_gX p q) b) b + bj_n (bj_P (bj_gX p q) L (64 * (b + 1))) b = bj_s (fun b => bj_n (bj_gX p q) b) (b + 1) := by
      rw [bj_n_cg (c := bj_gX p q) b (fun k hk => bj_P_lt (by omega))]
      rfl
    exact br_f (nI_ge (b := 4) (by omega) (by decide)) (bx_sb hw h1 hq (by omega) (bx_cn (by omega) (nm_r e (nm_r (nI_1 b) (ih (b + 1) (by omega))))))
theorem by_lv_in {post : Int32 → Prop} {J : Int32 → Int32 → Prop} {b u v j : Nat} {A : Int32} (hb : b < 4) (hu : u < 8) (hv : v < 8) (hj : j < 8)
    (hJ : J (A + bj_s (bj_g p b u v j) 8) (nI (j + 1))) :
    ∀ d i : Nat, i + d = 8 → wY_levelOf_32 post J (nI u) (nI v) (nI (128 * (b / 2) + 8 * (b % 2))) (nI j) nq ni sq si p M (d + 1) (A + bj_s (bj_g p b u v j) i) (nI i) := by
  intro d
  induction d with
  | zero =>
    intro i hi
    obtain rfl : i = 8 := by omega
    exact br_t (nI_le (a := 8) (b := 8) (by omega) (by decide)) (nm_r (nI_1 j) hJ)
  | succ d ih =>
    intro i hi
    have e : A + bj_s (bj_g p b u v j) i + (p (nI (128 * (b / 2) + 8 * (b % 2)) + (16 : Int32) * nI j + nI i).toNatClampNeg - 128) * bj_K u i * bj_K v j = A + bj_s (bj_g p b u v j) (i + 1) := by
      rw [bj_rd_at (a := p) (bj_ix6 (128 * (b / 2) + 8 * (b % 2)) j i) (by omega), Int32.add_assoc]
      rfl
    exact br_f (nI_ge (b := 8) (by omega) (by decide)) (by_k hu (by omega) (by_k hv hj ⟨pk_in (128 * (b / 2) + 8 * (b % 2) + 16 * j + i) 256 (by omega) (bj_ix6 _ j i), nm_r e (nm_r (nI_1 i) (ih (i + 1) (by omega)))⟩))
theorem by_lv_out {post : Int32 → Prop} {q b u v : Nat} (h1 : 1 ≤ q) (hq : q ≤ 8) (hb : b < 4) (hu : u < 8) (hv : v < 8) (k : post (bj_lv p q b u v)) :
    ∀ d j : Nat, j + d = 8 → wY_levelOf_22 post (nI u) (nI v) (nI (128 * (b / 2) + 8 * (b % 2))) nq ni (nI q) si p M (d + 1) (bj_s (fun j => bj_s (bj_g p b u v j) 8) j) (nI j) := by
  intro d
  induction d with
  | zero =>
    intro j hj
    obtain rfl : j = 8 := by omega
    exact br_t (nI_le (a := 8) (b := 8) (by omega) (by decide)) (by_st (by_rl (bj_2D0 h1 hq hu hv) k))
  | succ d ih =>
    intro j hj
    have h := by_lv_in (post := post) (nq := nq) (ni := ni) (sq := nI q) (si := si) (M := M) hb hu hv (show j < 8 by omega) (ih (j + 1) (by omega)) 8 0 rfl
    rw [bj_s0] at h
    exact br_f (nI_ge (b := 8) (by omega) (by decide)) ⟨8 + 1, h⟩
theorem by_lv {post : Int32 → Prop} {q b u v : Nat} (h1 : 1 ≤ q) (hq : q ≤ 8) (hb : b < 4) (hu : u < 8) (hv : v < 8) (k : post (bj_lv p q b u v)) : wpY_levelOf post (nq, ni, nI q, si, p, M) (nI b) (nI u) (nI v) := by
  have e : (128 : Int32) * (nI b / 2) + (8 : Int32) * (nI b - nI b / 2 * 2) = nI (128 * (b / 2) + 8 * (b % 2)) := by
    rw [bj_m2 (by omega), bj_d2 (by omega)]
    exact bj_ix7 _ _
  exact ⟨by decide, by decide, nm_r e ⟨8 + 1, by_lv_out h1 hq hb hu hv k 8 0 rfl⟩⟩
theorem by_store_lp {post : Int32 → SY → Prop} {q : Nat} (h1 : 1 ≤ q) (hq : q ≤ 8) (k : post (bj_n (bj_gY p q) 0 + bj_n (bj_gY p q) 1 + bj_n (bj_gY p q) 2 + bj_n (bj_gY p q) 3) (nq, ni, nI q, si, p, bj_P (bj_gY p q) M 256)) :
    ∀ d n : Nat, n + d = 256 → wY_store_18 post nq ni (nI q) si (d + 1) (nI n) p (bj_P (bj_gY p q) M n) := by
  intro d
  induction d with
  | zero =>
    intro n hn
    obtain rfl : n = 256 := by omega
    have e : ∀ b, b < 4 → bj_n (bj_P (bj_gY p q) M 256) b = bj_n (bj_gY p q) b := fun b hb => bj_n_cg b (fun k hk => bj_P_lt (by omega))
    refine br_t (nI_le (a := 256) (b := 256) (by omega) (by decide)) (by_cn (b := 0) (by decide) (by_cn (b := 1) (by decide) (by_cn (b := 2) (by decide) (by_cn (b := 3) (by decide) ?_))))
    rw [e 0 (by decide), e 1 (by decide), e 2 (by decide), e 3 (by decide)]
    exact k
  | succ d ih =>
    intro n hn
    refine br_f (nI_ge (b := 256) (by omega) (by decide)) ?_
    rw [bj_r6 (by omega), bj_a7 (by omega), bj_r3 (by omega), bj_a7 (n := n / 8) (by omega)]
    exact by_lv h1 hq (by omega) (by omega) (by omega) ⟨pk_in n 256 (by omega) rfl, nm_r (bj_P_w rfl (by omega) rfl) (nm_r (nI_1 n) (ih (n + 1) (by omega)))⟩
/-! lose -/
theorem bx_cl_lp {post : SX → Prop} {G : Nat → Int32} {b : Nat} (hb : b < 4) (hG : ∀ i, i < 64 → G (64 * b + i) = 0) (k : post (nq, ni, sq, si, p, w, bj_P G L (64 * (b + 1)))) :
    ∀ d i : Nat, i + d = 64 → wX_clearLevels_2 post (nI b) nq ni sq si (d + 1) (nI i) p w (bj_P G L (64 * b + i)) := by
  intro d
  induction d with
  | zero =>
    intro i hi
    obtain rfl : i = 64 := by omega
    exact br_t (nI_le (a := 64) (b := 64) (by omega) (by decide)) k
  | succ d ih =>
    intro i hi
    exact br_f (nI_ge (b := 64) (by omega) (by decide)) ⟨pk_in (64 * b + i) 256 (by omega) (bj_ix4 b i), nm_r (bj_P_w (bj_ix4 b i) (by omega) (hG i (by omega)).symm) (nm_r (nI_1 i) (ih (i + 1) (by omega)))⟩
theorem bx_clr {post : SX → Prop} {G : Nat → Int32} {b : Nat} (hb : b < 4) (hG : ∀ i, i < 64 → G (64 * b + i) = 0) (k : post (nq, ni, sq, si, p, w, bj_P G L (64 * (b + 1)))) : wpX_clearLevels post (nq, ni, sq, si, p, w, bj_P G L (64 * b)) (nI b) :=
  ⟨64 + 1, bx_cl_lp hb hG k 64 0 rfl⟩
theorem bx_lose_lp {post : Int32 → SX → Prop} {r b : Nat} (h1 : 1 ≤ r) (hr : r ≤ 4) (hb : b < 4) (k : post (bj_s (fun o => if o / r = b / r then bj_n L o else 0) 4) (nq, ni, sq, nI r, p, w, bj_P (bj_lo L r b) L 256)) :
    ∀ d o : Nat, o + d = 4 → wX_lose_22 post (nI (b / r)) (d + 1) (bj_s (fun o => if o / r = b / r then bj_n L o else 0) o) (nI o) nq ni sq (nI r) p w (bj_P (bj_lo L r b) L (64 * o)) := by
  intro d
  induction d with
  | zero =>
    intro o ho
    obtain rfl : o = 4 := by omega
    exact br_t (nI_le (a := 4) (b := 4) (by omega) (by decide)) k
  | succ d ih =>
    intro o ho
    have l1 : o / r ≤ o := Nat.div_le_self _ _
    have l2 : b / r ≤ b := Nat.div_le_self _ _
    refine br_f (nI_ge (b := 4) (by omega) (by decide)) ⟨nI_ne0 (by omega) (by omega), pk_eq (o / r) (b / r) (fun h => ?_) (fun h => ?_) (pk_div (by omega) (by omega) (by omega))⟩
    · have e : bj_s (fun o => if o / r = b / r then bj_n L o else 0) o + bj_n (bj_P (bj_lo L r b) L (64 * o)) o = bj_s (fun o => if o / r = b / r then bj_n L o else 0) (o + 1) := by
        rw [bj_n_cg (c := L) o (fun k hk => bj_P_ge (by omega))]
        show _ = bj_s (fun o => if o / r = b / r then bj_n L o else 0) o + (if o / r = b / r then bj_n L o else 0)
        rw [if_pos h]
      exact bx_cn (by omega) (nm_r e (bx_clr (by omega) (fun i hi => if_pos (by rw [show (64 * o + i) / 64 = o from by omega]; exact h)) (nm_r (nI_1 o) (ih (o + 1) (by omega)))))
    · have e : bj_s (fun o => if o / r = b / r then bj_n L o else 0) o = bj_s (fun o => if o / r = b / r then bj_n L o else 0) (o + 1) := by
        show _ = bj_s (fun o => if o / r = b / r then bj_n L o else 0) o + (if o / r = b / r then bj_n L o else 0)
        rw [if_neg h, Int32.add_zero]
      have e2 : bj_P (bj_lo L r b) L (64 * o) = bj_P (bj_lo L r b) L (64 * (o + 1)) := bj_P_sk (by omega) (fun m h3 h4 => if_neg (by rw [show m / 64 = o from by omega]; exact h))
      rw [e, e2]
      exact nm_r (nI_1 o) (ih (o + 1) (by omega))
theorem by_lose_lp {post : Int32 → SY → Prop} {r b : Nat} (h1 : 1 ≤ r) (hr : r ≤ 4) (hb : b < 4) (k : post (bj_s (fun n => if n / 64 / r = b / r then bj_i (M n) else 0) 256) (nq, ni, sq, nI r, p, bj_P (bj_lo M r b) M 256)) :
    ∀ d n : Nat, n + d = 256 → wY_lose_16 post (nI b) nq ni sq (nI r) (d + 1) (bj_s (fun n => if n / 64 / r = b / r then bj_i (M n) else 0) n) (nI n) p (bj_P (bj_lo M r b) M n) := by
  intro d
  induction d with
  | zero =>
    intro n hn
    obtain rfl : n = 256 := by omega
    exact br_t (nI_le (a := 256) (b := 256) (by omega) (by decide)) k
  | succ d ih =>
    intro n hn
    have l1 : n / 64 / r ≤ n / 64 := Nat.div_le_self _ _
    have l2 : b / r ≤ b := Nat.div_le_self _ _
    have e1 : nI n >>> ((6 : Int32) &&& 31) / nI r = nI (n / 64 / r) := by
      rw [bj_r6 (by omega)]
      exact pk_div (by omega) (by omega) (by omega)
    have e2 : nI b / nI r = nI (b / r) := pk_div (by omega) (by omega) (by omega)
    have eM : (bj_P (bj_lo M r b) M n) (nI n).toNatClampNeg = M n := by
      rw [nI_clamp (by omega)]
      exact bj_P_ge (Nat.le_refl n)
    refine br_f (nI_ge (b := 256) (by omega) (by decide)) ⟨nI_ne0 (by omega) (by omega), nI_ne0 (by omega) (by omega), pk_eq (n / 64 / r) (b / r) (fun h => ⟨pk_in n 256 (by omega) rfl, br_c (fun z => ?_) (fun z => ?_)⟩) (fun h => ?_) e1 e2⟩
    · rw [eM] at z
      have e : bj_s (fun n => if n / 64 / r = b / r then bj_i (M n) else 0) n = bj_s (fun n => if n / 64 / r = b / r then bj_i (M n) else 0) (n + 1) := by
        show _ = bj_s (fun n => if n / 64 / r = b / r then bj_i (M n) else 0) n + (if n / 64 / r = b / r then bj_i (M n) else 0)
        rw [if_pos h, bj_i, if_pos z, Int32.add_zero]
      have e3 : bj_P (bj_lo M r b) M n = bj_P (bj_lo M r b) M (n + 1) := bj_P_sk (by omega) (fun m h3 h4 => by
        obtain rfl : m = n := by omega
        exact (if_pos h).trans z.symm)
      rw [e, e3]
      exact nm_r (nI_1 n) (ih (n + 1) (by omega))
    · rw [eM] at z
      have e : bj_s (fun n => if n / 64 / r = b / r then bj_i (M n) else 0) n + 1 = bj_s (fun n => if n / 64 / r = b / r then bj_i (M n) else 0) (n + 1) := by
        show _ = bj_s (fun n => if n / 64 / r = b / r then bj_i (M n) else 0) n + (if n / 64 / r = b / r then bj_i (M n) else 0)
        rw [if_pos h, bj_i, if_neg z]
      exact ⟨pk_in n 256 (by omega) rfl, nm_r (bj_P_w rfl (by omega) (if_pos h).symm) (nm_r e (nm_r (nI_1 n) (ih (n + 1) (by omega))))⟩
    · have e : bj_s (fun n => if n / 64 / r = b / r then bj_i (M n) else 0) n = bj_s (fun n => if n / 64 / r = b / r then bj_i (M n) else 0) (n + 1) := by
        show _ = bj_s (fun n => if n / 64 / r = b / r then bj_i (M n) else 0) n + (if n / 64 / r = b / r then bj_i (M n) else 0)
        rw [if_neg h, Int32.add_zero]
      have e3 : bj_P (bj_lo M r b) M n = bj_P (bj_lo M r b) M (n + 1) := bj_P_sk (by omega) (fun m h3 h4 => by
        obtain rfl : m = n := by omega
        exact if_neg h)
      rw [e, e3]
      exact nm_r (nI_1 n) (ih (n + 1) (by omega))
end
end
section
/-! what is shown; difference and adopt -/
section
variable {nq ni sq si : Int32} {p w L M : Nat → Int32}
theorem bx_sg_in {post : Int32 → Prop} {J : Int64 → Int32 → Prop} {q b i j u : Nat} {A : Int64} (hw : bj_Ww w) (hb : b < 4) (hi : i < 8) (hj : j < 8) (hu : u < 8)
    (hJ : J (A + bj_S (fun v => bj_tx L q b i j u v) 8) (nI (u + 1))) :
    ∀ d v : Nat, v + d = 8 → wX_shownGrey_40 post J (nI b) (nI i) (nI j) (nI u) nq ni (nI q) si p w L (d + 1) (A + bj_S (fun v => bj_tx L q b i j u v) v) (nI v) := by
  intro d
  induction d with
  | zero =>
    intro v hv
    obtain rfl : v = 8 := by omega
    exact br_t (nI_le (a := 8) (b := 8) (by omega) (by decide)) (nm_r (nI_1 u) hJ)
  | succ d ih =>
    intro v hv
    have hv' : v < 8 := by omega
    have e : A + bj_S (fun v => bj_tx L q b i j u v) v + (bj_e u * bj_e v).toInt64 * ((L ((64 : Int32) * nI b + (8 : Int32) * nI u + nI v).toNatClampNeg).toInt64 * (nI (bj_D q u v)).toInt64) * (w ((8 : Int32) * nI u + nI i).toNatClampNeg * w ((8 : Int32) * nI v + nI j).toNatClampNeg).toInt64 = A + bj_S (fun v => bj_tx L q b i j u v) (v + 1) := by
      rw [bj_rd_at (a := L) (bj_ix2 b u v) (by omega), bj_rd_at (a := w) (bj_ix3 u i) (by omega), bj_rd_at (a := w) (bj_ix3 v j) (by omega), hw u i hu hi, hw v j hv' hj, Int64.add_assoc]
      rfl
    exact br_f (nI_ge (b := 8) (by omega) (by decide)) ⟨pk_in (64 * b + 8 * u + v) 256 (by omega) (bj_ix2 b u v), bx_st (nm_e ⟨pk_in (8 * u + i) 64 (by omega) (bj_ix3 u i), pk_in (8 * v + j) 64 (by omega) (bj_ix3 v j), nm_e (bx_sf hu (bx_sf hv' (nm_r e (nm_r (nI_1 v) (ih (v + 1) (by omega))))))⟩)⟩
theorem bx_sg_out {post : Int32 → Prop} {q b i j : Nat} (hw : bj_Ww w) (hb : b < 4) (hi : i < 8) (hj : j < 8) (k : post (bj_cl (128 + (bj_z (bj_TX L q b i j)).toInt32))) :
    ∀ d u : Nat, u + d = 8 → wX_shownGrey_30 post (nI b) (nI i) (nI j) nq ni (nI q) si p w L (d + 1) (bj_S (fun u => bj_S (fun v => bj_tx L q b i j u v) 8) u) (nI u) := by
  intro d
  induction d with
  | zero =>
    intro u hu
    obtain rfl : u = 8 := by omega
    exact br_t (nI_le (a := 8) (b := 8) (by omega) (by decide)) (nm_e (bx_ng k))
  | succ d ih =>
    intro u hu
    have h := bx_sg_in (post := post) (nq := nq) (ni := ni) (si := si) (p := p) hw hb hi hj (show u < 8 by omega) (ih (u + 1) (by omega)) 8 0 rfl
    rw [bj_S0] at h
    exact br_f (nI_ge (b := 8) (by omega) (by decide)) ⟨8 + 1, h⟩
theorem bx_sg {post : Int32 → Prop} {q x y : Nat} (hw : bj_Ww w) (hL : bj_Lr L M) (hM : bj_Mb M) (hq : q ≤ 8) (hx : x < 16) (hy : y < 16) (k : post (bj_sh M q x y)) : wpX_shownGrey post (nq, ni, nI q, si, p, w, L) (nI x) (nI y) := by
  have e : (2 : Int32) * (nI y / 8) + nI x / 8 = nI (2 * (y / 8) + x / 8) := by
    rw [bj_d8 (by omega), bj_d8 (by omega)]
    exact bj_bk _ _
  rw [← bj_sh_x hL hM hq hx hy] at k
  exact ⟨by decide, by decide, nm_r e ⟨by decide, nm_r (bj_m8 (by omega)) ⟨by decide, nm_r (bj_m8 (by omega)) ⟨8 + 1, bx_sg_out hw (by omega) (by omega) (by omega) k 8 0 rfl⟩⟩⟩⟩
/-! the reference -/
theorem by_67 {post : Int32 → Prop} {J30 J40 : Int64 → Int32 → Prop} {q x y b u v : Nat} {A : Int64} {z0 z1 : Int32} (hx : x < 16) (hy : y < 16) (hb : b < 4) (hu : u < 8) (hv : v < 8) (h0 : z0 = bj_e v) (h1 : z1 = bj_e u)
    (k : J40 (A + bj_t M q b (x % 8) (y % 8) u v) (nI (u + 1))) : wY_show_67 post J30 J40 (nI x) (nI y) (nI b) A (nI v) (nI u) z0 z1 nq ni (nI q) si p M := by
  subst h0 h1
  have e : A + (bj_e u * bj_e v).toInt64 * (M ((64 : Int32) * nI b + (8 : Int32) * nI v + nI u).toNatClampNeg).toInt64 * (nI (bj_D q u v)).toInt64 * (bj_K u (x % 8)).toInt64 * (bj_K v (y % 8)).toInt64 = A + bj_t M q b (x % 8) (y % 8) u v := by
    rw [bj_rd_at (a := M) (bj_ix2 b v u) (by omega)]
    rfl
  refine nm_e ⟨pk_in (64 * b + 8 * v + u) 256 (by omega) (bj_ix2 b v u), by_st (nm_e ⟨by decide, ?_⟩)⟩
  rw [bj_m8 (show x < 256 by omega)]
  refine by_k hu (by omega) ⟨by decide, ?_⟩
  rw [bj_m8 (show y < 256 by omega)]
  exact by_k hv (by omega) (nm_r e (nm_r (nI_1 u) k))
theorem by_57 {post : Int32 → Prop} {J30 J40 : Int64 → Int32 → Prop} {q x y b u v : Nat} {A : Int64} {z1 : Int32} (hx : x < 16) (hy : y < 16) (hb : b < 4) (hu : u < 8) (hv : v < 8) (h1 : z1 = bj_e u)
    (k : J40 (A + bj_t M q b (x % 8) (y % 8) u v) (nI (u + 1))) : wY_show_57 post J30 J40 (nI x) (nI y) (nI b) A (nI v) (nI u) z1 nq ni (nI q) si p M :=
  pk_eq v 0 (fun h => by_67 hx hy hb hu hv (by rw [bj_e, if_pos h]) h1 k) (fun h => by_67 hx hy hb hu hv (by rw [bj_e, if_neg h]) h1 k)
theorem by_sh_in {post : Int32 → Prop} {J : Int64 → Int32 → Prop} {q x y b v : Nat} {A : Int64} (hx : x < 16) (hy : y < 16) (hb : b < 4) (hv : v < 8)
    (hJ : J (A + bj_S (fun u => bj_t M q b (x % 8) (y % 8) u v) 8) (nI (v + 1))) :
    ∀ d u : Nat, u + d = 8 → wY_show_40 post J (nI x) (nI y) (nI b) (nI v) nq ni (nI q) si p M (d + 1) (A + bj_S (fun u => bj_t M q b (x % 8) (y % 8) u v) u) (nI u) := by
  intro d
  induction d with
  | zero =>
    intro u hu
    obtain rfl : u = 8 := by omega
    exact br_t (nI_le (a := 8) (b := 8) (by omega) (by decide)) (nm_r (nI_1 v) hJ)
  | succ d ih =>
    intro u hu
    have k := ih (u + 1) (by omega)
    rw [show A + bj_S (fun u => bj_t M q b (x % 8) (y % 8) u v) (u + 1) = A + bj_S (fun u => bj_t M q b (x % 8) (y % 8) u v) u + bj_t M q b (x % 8) (y % 8) u v from (Int64.add_assoc _ _ _).symm] at k
    exact br_f (nI_ge (b := 8) (by omega) (by decide)) (pk_eq u 0 (fun h => by_57 hx hy hb (by omega) hv (by rw [bj_e, if_pos h]) k) (fun h => by_57 hx hy hb (by omega) hv (by rw [bj_e, if_neg h]) k))
theorem by_sh_out {post : Int32 → Prop} {q x y b : Nat} (hx : x < 16) (hy : y < 16) (hb : b < 4) (k : post (bj_yz (bj_z (bj_T M q b (x % 8) (y % 8))))) :
    ∀ d v : Nat, v + d = 8 → wY_show_30 post (nI x) (nI y) (nI b) nq ni (nI q) si p M (d + 1) (bj_S (fun v => bj_S (fun u => bj_t M q b (x % 8) (y % 8) u v) 8) v) (nI v) := by
  intro d
  induction d with
  | zero =>
    intro v hv
    obtain rfl : v = 8 := by omega
    refine br_t (nI_le (a := 8) (b := 8) (by omega) (by decide)) (nm_r (e' := bj_z (bj_T M q b (x % 8) (y % 8))) rfl ?_)
    unfold bj_yz at k
    by_cases h1 : bj_z (bj_T M q b (x % 8) (y % 8)) < -128
    · rw [if_pos h1] at k
      exact br_f (Int64.not_le.mpr h1) k
    · rw [if_neg h1] at k
      by_cases h2 : 127 < bj_z (bj_T M q b (x % 8) (y % 8))
      · rw [if_pos h2] at k
        exact br_t (Int64.not_lt.mp h1) (br_f (Int64.not_le.mpr h2) k)
      · rw [if_neg h2] at k
        exact br_t (Int64.not_lt.mp h1) (br_t (Int64.not_lt.mp h2) k)
  | succ d ih =>
    intro v hv
    have h := by_sh_in (post := post) (nq := nq) (ni := ni) (si := si) (p := p) hx hy hb (show v < 8 by omega) (ih (v + 1) (by omega)) 8 0 rfl
    rw [bj_S0] at h
    exact br_f (nI_ge (b := 8) (by omega) (by decide)) ⟨8 + 1, h⟩
theorem by_sh {post : Int32 → Prop} {q x y : Nat} (hx : x < 16) (hy : y < 16) (k : post (bj_sh M q x y)) : wpY_show post (nq, ni, nI q, si, p, M) (nI x) (nI y) := by
  have e : (2 : Int32) * (nI y / 8) + nI x / 8 = nI (2 * (y / 8) + x / 8) := by
    rw [bj_d8 (by omega), bj_d8 (by omega)]
    exact bj_bk _ _
  unfold wpY_show
  dsimp only
  refine by_px hx hy (br_f bj_1 ⟨by decide, by decide, nm_r e ⟨8 + 1, ?_⟩⟩)
  exact by_sh_out hx hy (by omega) k 8 0 rfl
theorem by_sn {post : Int32 → Prop} {q n : Nat} (hn : n < 256) (k : post (bj_sh M q (n % 16) (n / 16))) : wpY_show post (nq, ni, nI q, si, p, M) (nI n &&& 15) (nI n >>> ((4 : Int32) &&& 31)) := by
  rw [bj_a15 hn, bj_r4 hn]
  exact by_sh (by omega) (by omega) k
/-! difference -/
def bj_d (p M : Nat → Int32) (q : Nat) : Nat → Int32 := fun m => bj_ab (p m - bj_sh M q (m % 16) (m / 16))
theorem bj_d_p {q n : Nat} {s : Int32} (hs : s = p n - bj_sh M q (n % 16) (n / 16)) (h : 0 ≤ s) : bj_s (bj_d p M q) n + s = bj_s (bj_d p M q) (n + 1) := by
  show _ = bj_s (bj_d p M q) n + (if p n - bj_sh M q (n % 16) (n / 16) < 0 then -(p n - bj_sh M q (n % 16) (n / 16)) else p n - bj_sh M q (n % 16) (n / 16))
  rw [← hs, if_neg (Int32.not_lt.mpr h)]
theorem bj_d_m {q n : Nat} {s : Int32} (hs : s = p n - bj_sh M q (n % 16) (n / 16)) (h : ¬ 0 ≤ s) : bj_s (bj_d p M q) n + -s = bj_s (bj_d p M q) (n + 1) := by
  show _ = bj_s (bj_d p M q) n + (if p n - bj_sh M q (n % 16) (n / 16) < 0 then -(p n - bj_sh M q (n % 16) (n / 16)) else p n - bj_sh M q (n % 16) (n / 16))
  rw [← hs, if_pos (Int32.not_le.mp h)]
theorem bx_df_in {post : Int32 → Prop} {J : Int32 → Int32 → Prop} {q y : Nat} (hw : bj_Ww w) (hL : bj_Lr L M) (hM : bj_Mb M) (hq : q ≤ 8) (hy : y < 16)
    (hJ : J (bj_s (bj_d p M q) (16 * (y + 1))) (nI (y + 1))) :
    ∀ d x : Nat, x + d = 16 → wX_difference_12 post J (nI y) nq ni (nI q) si p w L (d + 1) (bj_s (bj_d p M q) (16 * y + x)) (nI x) := by
  intro d
  induction d with
  | zero =>
    intro x hx
    obtain rfl : x = 16 := by omega
    exact br_t (nI_le (a := 16) (b := 16) (by omega) (by decide)) (nm_r (nI_1 y) hJ)
  | succ d ih =>
    intro x hx
    have hx' : x < 16 := by omega
    have e : p ((16 : Int32) * nI y + nI x).toNatClampNeg - bj_sh M q x y = p (16 * y + x) - bj_sh M q ((16 * y + x) % 16) ((16 * y + x) / 16) := by
      rw [bj_rd_at (a := p) (bj_ix1 y x) (by omega), bj_q1 hx', bj_q2 hx']
    exact br_f (nI_ge (b := 16) (by omega) (by decide)) ⟨pk_in (16 * y + x) 256 (by omega) (bj_ix1 y x), bx_sg hw hL hM hq hx' hy (nm_e (br_c (fun h => nm_r (bj_d_p e h) (nm_r (nI_1 x) (ih (x + 1) (by omega)))) (fun h => nm_r (bj_d_m e h) (nm_r (nI_1 x) (ih (x + 1) (by omega))))))⟩
theorem bx_df_out {post : Int32 → Prop} {q : Nat} (hw : bj_Ww w) (hL : bj_Lr L M) (hM : bj_Mb M) (hq : q ≤ 8) (k : post (bj_s (bj_d p M q) 256)) :
    ∀ d y : Nat, y + d = 16 → wX_difference_4 post nq ni (nI q) si p w L (d + 1) (bj_s (bj_d p M q) (16 * y)) (nI y) := by
  intro d
  induction d with
  | zero =>
    intro y hy
    obtain rfl : y = 16 := by omega
    exact br_t (nI_le (a := 16) (b := 16) (by omega) (by decide)) k
  | succ d ih =>
    intro y hy
    exact br_f (nI_ge (b := 16) (by omega) (by decide)) ⟨16 + 1, bx_df_in hw hL hM hq (by omega) (ih (y + 1) (by omega)) 16 0 rfl⟩
theorem bx_df {post : Int32 → Prop} {q : Nat} (hw : bj_Ww w) (hL : bj_Lr L M) (hM : bj_Mb M) (hq : q ≤ 8) (k : post (bj_s (bj_d p M q) 256)) : wpX_difference post (nq, ni, nI q, si, p, w, L) :=
  ⟨16 + 1, bx_df_out hw hL hM hq k 16 0 rfl⟩
theorem by_df_lp {post : Int32 → Prop} {q : Nat} (k : post (bj_s (bj_d p M q) 256)) :
    ∀ d n : Nat, n + d = 256 → wY_difference_4 post nq ni (nI q) si p M (d + 1) (bj_s (bj_d p M q) n) (nI n) := by
  intro d
  induction d with
  | zero =>
    intro n hn
    obtain rfl : n = 256 := by omega
    exact br_t (nI_le (a := 256) (b := 256) (by omega) (by decide)) k
  | succ d ih =>
    intro n hn
    have e : p (nI n).toNatClampNeg - bj_sh M q (n % 16) (n / 16) = p n - bj_sh M q (n % 16) (n / 16) := by rw [nI_clamp (by omega)]
    exact br_f (nI_ge (b := 256) (by omega) (by decide)) ⟨pk_in n 256 (by omega) rfl, by_sn (by omega) (nm_e (br_c (fun h => nm_r (bj_d_p e h) (nm_r (nI_1 n) (ih (n + 1) (by omega)))) (fun h => nm_r (bj_d_m e h) (nm_r (nI_1 n) (ih (n + 1) (by omega))))))⟩
theorem by_df {post : Int32 → Prop} {q : Nat} (k : post (bj_s (bj_d p M q) 256)) : wpY_difference post (nq, ni, nI q, si, p, M) :=
  ⟨256 + 1, by_df_lp k 256 0 rfl⟩
/-! adopt -/
def bj_ad (M : Nat → Int32) (q : Nat) : Nat → Int32 := fun m => bj_sh M q (m % 16) (m / 16)
theorem bj_ad_at {q x y : Nat} (hx : x < 16) : bj_sh M q x y = bj_ad M q (16 * y + x) := by
  show _ = bj_sh M q ((16 * y + x) % 16) ((16 * y + x) / 16)
  rw [bj_q1 hx, bj_q2 hx]
theorem bx_ad_in {post : Int32 → SX → Prop} {J : Int32 → (Nat → Int32) → (Nat → Int32) → (Nat → Int32) → Prop} {c : Int32} {q y : Nat} (hw : bj_Ww w) (hL : bj_Lr L M) (hM : bj_Mb M) (hq : q ≤ 8) (hy : y < 16)
    (hJ : J (nI (y + 1)) (bj_P (bj_ad M q) p (16 * (y + 1))) w L) :
    ∀ d x : Nat, x + d = 16 → wX_adopt_15 post J c (nI y) nq ni (nI q) si (d + 1) (nI x) (bj_P (bj_ad M q) p (16 * y + x)) w L := by
  intro d
  induction d with
  | zero =>
    intro x hx
    obtain rfl : x = 16 := by omega
    exact br_t (nI_le (a := 16) (b := 16) (by omega) (by decide)) (nm_r (nI_1 y) hJ)
  | succ d ih =>
    intro x hx
    have hx' : x < 16 := by omega
    exact br_f (nI_ge (b := 16) (by omega) (by decide)) (bx_sg hw hL hM hq hx' hy ⟨pk_in (16 * y + x) 256 (by omega) (bj_ix1 y x), nm_r (bj_P_w (bj_ix1 y x) (by omega) (bj_ad_at hx')) (nm_r (nI_1 x) (ih (x + 1) (by omega)))⟩)
theorem bx_ad_out {post : Int32 → SX → Prop} {c : Int32} {q : Nat} (hw : bj_Ww w) (hL : bj_Lr L M) (hM : bj_Mb M) (hq : q ≤ 8) (k : post c (nq, ni, nI q, si, bj_P (bj_ad M q) p 256, w, L)) :
    ∀ d y : Nat, y + d = 16 → wX_adopt_7 post c nq ni (nI q) si (d + 1) (nI y) (bj_P (bj_ad M q) p (16 * y)) w L := by
  intro d
  induction d with
  | zero =>
    intro y hy
    obtain rfl : y = 16 := by omega
    exact br_t (nI_le (a := 16) (b := 16) (by omega) (by decide)) k
  | succ d ih =>
    intro y hy
    exact br_f (nI_ge (b := 16) (by omega) (by decide)) ⟨16 + 1, bx_ad_in hw hL hM hq (by omega) (ih (y + 1) (by omega)) 16 0 rfl⟩
theorem by_ad {post : Int32 → SY → Prop} {c : Int32} {q : Nat} (k : post c (nq, ni, nI q, si, bj_P (bj_ad M q) p 256, M)) :
    ∀ d n : Nat, n + d = 256 → wY_adopt_7 post c nq ni (nI q) si (d + 1) (nI n) (bj_P (bj_ad M q) p n) M := by
  intro d
  induction d with
  | zero =>
    intro n hn
    obtain rfl : n = 256 := by omega
    exact br_t (nI_le (a := 256) (b := 256) (by omega) (by decide)) k
  | succ d ih =>
    intro n hn
    exact br_f (nI_ge (b := 256) (by omega) (by decide)) (by_sn (by omega) ⟨pk_in n 256 (by omega) rfl, nm_r (bj_P_w rfl (by omega) rfl) (nm_r (nI_1 n) (ih (n + 1) (by omega)))⟩)
end
end
section
/-! what is owed -/
def bj_Q (q r s t : Nat) : Prop := 1 ≤ q ∧ q ≤ 8 ∧ 1 ≤ r ∧ r ≤ 4 ∧ 1 ≤ s ∧ s ≤ 8 ∧ 1 ≤ t ∧ t ≤ 4
def i_Rel (k : Nat) (u : SX) (v : SY) : Prop := ∃ (q r s t : Nat) (p w L M : Nat → Int32), u = (nI q, nI r, nI s, nI t, p, w, L) ∧ v = (nI q, nI r, nI s, nI t, p, M) ∧ bj_Q q r s t ∧ bj_Ww w ∧ bj_Lr L M ∧ bj_Mb M
theorem i_up {k : Nat} {u : SX} {v : SY} (h : i_Rel k u v) : i_Rel (k + 4) u v := h
theorem bj_mk {k q r s t : Nat} {p w L M : Nat → Int32} (hQ : bj_Q q r s t) (hw : bj_Ww w) (hL : bj_Lr L M) (hM : bj_Mb M) : i_Rel k (nI q, nI r, nI s, nI t, p, w, L) (nI q, nI r, nI s, nI t, p, M) :=
  ⟨q, r, s, t, p, w, L, M, rfl, rfl, hQ, hw, hL, hM⟩
theorem bj_kt_w : bj_Ww (bj_P bj_kt (fun _ => 0) 64) := by
  intro u i hu hi
  rw [bj_P_lt (by omega)]
  exact (bj_kt_at hi).symm
theorem bj_0b : bj_Mb (fun _ => 0) := by
  intro n
  show (0 : Int32).toInt.natAbs ≤ 65536
  decide
theorem i_vc0 : wpX_init (fun u => wpY_init (fun v => i_Rel 0 u v)) := by
  have hR : i_Rel 0 ((1 : Int32), (4 : Int32), (1 : Int32), (4 : Int32), bj_P (fun _ => 128) (fun _ => 0) 256, bj_P bj_kt (fun _ => 0) 64, fun _ => 0) ((1 : Int32), (4 : Int32), (1 : Int32), (4 : Int32), bj_P (fun _ => 128) (fun _ => 0) 256, fun _ => 0) :=
    ⟨1, 4, 1, 4, _, _, _, _, rfl, rfl, by unfold bj_Q; decide, bj_kt_w, fun _ _ _ _ _ _ => rfl, bj_0b⟩
  have hY : wpY_init (fun v => i_Rel 0 ((1 : Int32), (4 : Int32), (1 : Int32), (4 : Int32), bj_P (fun _ => 128) (fun _ => 0) 256, bj_P bj_kt (fun _ => 0) 64, fun _ => 0) v) := by
    have h := by_init (post := fun v => i_Rel 0 ((1 : Int32), (4 : Int32), (1 : Int32), (4 : Int32), bj_P (fun _ => 128) (fun _ => 0) 256, bj_P bj_kt (fun _ => 0) 64, fun _ => 0) v) (nq := 0) (ni := 0) (sq := 0) (si := 0) (p := fun _ => 0) (M := fun _ => 0) hR 256 0 rfl
    rw [bj_P_0] at h
    exact ⟨256 + 1, h⟩
  have h := bx_init_out (post := fun u => wpY_init (fun v => i_Rel 0 u v)) (nq := 1) (ni := 4) (sq := 1) (si := 4) (p := fun _ => 0) (w := fun _ => 0) (L := fun _ => 0) hY 256 0 rfl
  rw [bj_P_0] at h
  exact ⟨256 + 1, h⟩
theorem i_vc_put {k : Nat} {u : SX} {v : SY} (I : i_Rel k u v) (hk : k + 4 ≤ 2048) (v1 : Int32) (v2 : Int32) (v3 : Int32) : wpX_put (fun r u' => wpY_put (fun r' v' => r' = r ∧ i_Rel (k + 4) u' v') v v1 v2 v3) u v1 v2 v3 := by
  obtain ⟨q, r, s, t, p, w, L, M, rfl, rfl, hQ, hw, hL, hM⟩ := I
  have hR : ∀ p : Nat → Int32, i_Rel (k + 4) (nI q, nI r, nI s, nI t, p, w, L) (nI q, nI r, nI s, nI t, p, M) := fun p => bj_mk hQ hw hL hM
  unfold wpX_put wpY_put
  dsimp only
  rcases bj_px v1 v2 with ⟨a, b, ha, hb, rfl, rfl⟩ | ⟨bX, bY⟩
  · rcases bj_gy v3 with ⟨gX, gY⟩ | ⟨gX, gY⟩
    · refine bx_px ha hb (br_f bj_1 (gX _ (br_f bj_1 ⟨pk_in (16 * b + a) 256 (by omega) (bj_ix1 b a), nm_e ⟨pk_in (16 * b + a) 256 (by omega) (bj_ix1 b a), nm_e ?_⟩⟩)))
      exact by_px ha hb (br_f bj_1 (gY _ _ _ _ _ _ _ (br_f bj_1 ⟨pk_in (16 * b + a) 256 (by omega) (bj_ix1 b a), nm_e ⟨pk_in (16 * b + a) 256 (by omega) (bj_ix1 b a), nm_e ⟨rfl, hR _⟩⟩⟩)))
    · refine bx_px ha hb (br_f bj_1 (gX _ (br_t rfl ?_)))
      exact by_px ha hb (br_f bj_1 (gY _ _ _ _ _ _ _ (br_t rfl ⟨rfl, hR _⟩)))
  · refine bX _ (br_t rfl ?_)
    exact bY _ _ _ _ _ _ _ (br_t rfl ⟨rfl, hR _⟩)
theorem i_vc_fill {k : Nat} {u : SX} {v : SY} (I : i_Rel k u v) (hk : k + 4 ≤ 2048) (v1 : Int32) (v2 : Int32) (v3 : Int32) : wpX_fill (fun r u' => wpY_fill (fun r' v' => r' = r ∧ i_Rel (k + 4) u' v') v v1 v2 v3) u v1 v2 v3 := by
  obtain ⟨q, r, s, t, p, w, L, M, rfl, rfl, hQ, hw, hL, hM⟩ := I
  have hR : ∀ p : Nat → Int32, i_Rel (k + 4) (nI q, nI r, nI s, nI t, p, w, L) (nI q, nI r, nI s, nI t, p, M) := fun p => bj_mk hQ hw hL hM
  unfold wpX_fill wpY_fill
  dsimp only
  rcases bj_px v1 v2 with ⟨a, b, ha, hb, rfl, rfl⟩ | ⟨bX, bY⟩
  · rcases bj_gy v3 with ⟨gX, gY⟩ | ⟨gX, gY⟩
    · refine bx_px ha hb (br_f bj_1 (gX _ (br_f bj_1 ⟨16 - b + 1, ?_⟩)))
      rw [show wX_fill_21 _ _ _ _ _ _ _ _ _ p w L = wX_fill_21 _ _ _ _ _ _ _ _ _ (bj_P (bj_fl p a b v3) p (16 * b)) w L from by rw [← bj_fl_top]]
      refine bx_fill_out ha ?_ (16 - b) b (by omega) (Nat.le_refl b)
      refine by_px ha hb (br_f bj_1 (gY _ _ _ _ _ _ _ (br_f bj_1 ⟨16 - b + 1, ?_⟩)))
      rw [show wY_fill_23 _ _ _ _ _ _ _ _ _ p M = wY_fill_23 _ _ _ _ _ _ _ _ _ (bj_P (bj_fl p a b v3) p (16 * b)) M from by rw [← bj_fl_top]]
      exact by_fill_out ha ⟨rfl, hR _⟩ (16 - b) b (by omega) (Nat.le_refl b)
    · refine bx_px ha hb (br_f bj_1 (gX _ (br_t rfl ?_)))
      exact by_px ha hb (br_f bj_1 (gY _ _ _ _ _ _ _ (br_t rfl ⟨rfl, hR _⟩)))
  · refine bX _ (br_t rfl ?_)
    exact bY _ _ _ _ _ _ _ (br_t rfl ⟨rfl, hR _⟩)
theorem i_vc_ramp {k : Nat} {u : SX} {v : SY} (I : i_Rel k u v) (hk : k + 4 ≤ 2048) (v1 : Int32) (v2 : Int32) (v3 : Int32) : wpX_ramp (fun r u' => wpY_ramp (fun r' v' => r' = r ∧ i_Rel (k + 4) u' v') v v1 v2 v3) u v1 v2 v3 := by
  obtain ⟨q, r, s, t, p, w, L, M, rfl, rfl, hQ, hw, hL, hM⟩ := I
  have hR : ∀ p : Nat → Int32, i_Rel (k + 4) (nI q, nI r, nI s, nI t, p, w, L) (nI q, nI r, nI s, nI t, p, M) := fun p => bj_mk hQ hw hL hM
  unfold wpX_ramp wpY_ramp
  dsimp only
  rcases bj_gy v1 with ⟨gX, gY⟩ | ⟨gX, gY⟩
  · by_cases a1 : v2 < (-64)
    · exact gX _ (br_f bj_1 (br_t a1 (br_t rfl (gY _ _ _ _ _ _ _ (br_f bj_1 (br_t a1 ⟨rfl, hR _⟩))))))
    · by_cases a2 : 64 < v2
      · exact gX _ (br_f bj_1 (br_f a1 (br_t a2 (br_t rfl (gY _ _ _ _ _ _ _ (br_f bj_1 (br_f a1 (br_t a2 ⟨rfl, hR _⟩))))))))
      · by_cases b1 : v3 < (-64)
        · exact gX _ (br_f bj_1 (br_f a1 (br_f a2 (br_f bj_1 (br_t b1 (br_t rfl (gY _ _ _ _ _ _ _ (br_f bj_1 (br_f a1 (br_f a2 (br_t b1 ⟨rfl, hR _⟩)))))))))))
        · by_cases b2 : 64 < v3
          · exact gX _ (br_f bj_1 (br_f a1 (br_f a2 (br_f bj_1 (br_f b1 (br_t b2 (br_t rfl (gY _ _ _ _ _ _ _ (br_f bj_1 (br_f a1 (br_f a2 (br_f b1 (br_f (Int32.not_le.mpr b2) ⟨rfl, hR _⟩)))))))))))))
          · refine gX _ (br_f bj_1 (br_f a1 (br_f a2 (br_f bj_1 (br_f b1 (br_f b2 (br_f bj_1 ⟨16 + 1, ?_⟩)))))))
            have hY : ∀ post : Int32 → SY → Prop, post 0 (nI q, nI r, nI s, nI t, bj_P (bj_rp v1 v2 v3) p 256, M) → wY_ramp_38 post v1 v2 v3 (nI q) (nI r) (nI s) (nI t) (256 + 1) 0 p M := by
              intro post h
              have h2 := by_ramp h 256 0 rfl
              rw [bj_P_0] at h2
              exact h2
            have hX : ∀ post : Int32 → SX → Prop, post 0 (nI q, nI r, nI s, nI t, bj_P (bj_rp v1 v2 v3) p 256, w, L) → wX_ramp_27 post v1 v2 v3 (nI q) (nI r) (nI s) (nI t) (16 + 1) 0 p w L := by
              intro post h
              have h2 := bx_ramp_out h 16 0 rfl
              rw [Nat.mul_zero, bj_P_0] at h2
              exact h2
            exact hX _ (gY _ _ _ _ _ _ _ (br_f bj_1 (br_f a1 (br_f a2 (br_f b1 (br_t (Int32.not_lt.mp b2) ⟨256 + 1, hY _ ⟨rfl, hR _⟩⟩))))))
  · refine gX _ (br_t rfl ?_)
    exact gY _ _ _ _ _ _ _ (br_t rfl ⟨rfl, hR _⟩)
theorem i_vc_weave {k : Nat} {u : SX} {v : SY} (I : i_Rel k u v) (hk : k + 4 ≤ 2048) (v1 : Int32) : wpX_weave (fun r u' => wpY_weave (fun r' v' => r' = r ∧ i_Rel (k + 4) u' v') v v1) u v1 := by
  obtain ⟨q, r, s, t, p, w, L, M, rfl, rfl, hQ, hw, hL, hM⟩ := I
  have hR : ∀ p : Nat → Int32, i_Rel (k + 4) (nI q, nI r, nI s, nI t, p, w, L) (nI q, nI r, nI s, nI t, p, M) := fun p => bj_mk hQ hw hL hM
  rcases bj_rg v1 4 (by decide) (by decide) with h | ⟨h0, h1, h2⟩ | ⟨c, hc, rfl⟩
  · exact br_t h (br_t h ⟨rfl, hR _⟩)
  · exact br_f h0 (br_f (Int32.not_le.mpr h2) (br_f h0 (br_f (Int32.not_le.mpr h2) ⟨rfl, hR _⟩)))
  · have hY : ∀ post : Int32 → SY → Prop, post 0 (nI q, nI r, nI s, nI t, bj_P (bj_wv p c) p 256, M) → wY_weave_14 post (nI c) (nI q) (nI r) (nI s) (nI t) (256 + 1) 0 p M := by
      intro post h
      have h2 := by_weave hc h 256 0 rfl
      rw [bj_P_0] at h2
      exact h2
    have hX : ∀ post : Int32 → SX → Prop, post 0 (nI q, nI r, nI s, nI t, bj_P (bj_wv p c) p 256, w, L) → wX_weave_14 post (nI c) (nI q) (nI r) (nI s) (nI t) (16 + 1) 0 p w L := by
      intro post h
      have h2 := bx_weave_out hc h 16 0 rfl
      rw [Nat.mul_zero, bj_P_0] at h2
      exact h2
    have c0 : ¬ nI c < 0 := nI_pos (by omega)
    have c1 : nI c ≤ 3 := nI_le (b := 3) (by omega) (by decide)
    exact br_f c0 (br_t c1 ⟨16 + 1, hX _ (br_f c0 (br_t c1 ⟨256 + 1, hY _ ⟨rfl, hR _⟩⟩))⟩)
theorem i_vc_pixel {k : Nat} {u : SX} {v : SY} (I : i_Rel k u v) (hk : k + 4 ≤ 2048) (v1 : Int32) (v2 : Int32) : wpX_pixel (fun r => wpY_pixel (fun r' => r' = r ∧ i_Rel (k + 4) u v) v v1 v2) u v1 v2 := by
  obtain ⟨q, r, s, t, p, w, L, M, rfl, rfl, hQ, hw, hL, hM⟩ := I
  have hR : i_Rel (k + 4) (nI q, nI r, nI s, nI t, p, w, L) (nI q, nI r, nI s, nI t, p, M) := bj_mk hQ hw hL hM
  unfold wpX_pixel wpY_pixel
  dsimp only
  rcases bj_px v1 v2 with ⟨a, b, ha, hb, rfl, rfl⟩ | ⟨bX, bY⟩
  · refine bx_px ha hb (br_f bj_1 ⟨pk_in (16 * b + a) 256 (by omega) (bj_ix1 b a), ?_⟩)
    exact by_px ha hb (br_f bj_1 ⟨pk_in (16 * b + a) 256 (by omega) (bj_ix1 b a), rfl, hR⟩)
  · refine bX _ (br_t rfl ?_)
    exact bY _ _ _ _ _ _ _ (br_t rfl ⟨rfl, hR⟩)
theorem i_vc_quality {k : Nat} {u : SX} {v : SY} (I : i_Rel k u v) (hk : k + 4 ≤ 2048) (v1 : Int32) : wpX_quality (fun r u' => wpY_quality (fun r' v' => r' = r ∧ i_Rel (k + 4) u' v') v v1) u v1 := by
  obtain ⟨q, r, s, t, p, w, L, M, rfl, rfl, hQ, hw, hL, hM⟩ := I
  have hR : i_Rel (k + 4) (nI q, nI r, nI s, nI t, p, w, L) (nI q, nI r, nI s, nI t, p, M) := bj_mk hQ hw hL hM
  rcases bj_rg v1 9 (by decide) (by decide) with h | ⟨h0, h1, h2⟩ | ⟨c, hc, rfl⟩
  · have h' : v1 < 1 := Int32.lt_trans h (by decide)
    exact br_t h' (br_t h' ⟨rfl, hR⟩)
  · have h' : ¬ v1 < 1 := Int32.not_lt.mpr (Int32.le_trans (by decide : (1 : Int32) ≤ nI 9) h1)
    exact br_f h' (br_f (Int32.not_le.mpr h2) (br_f h' (br_f (Int32.not_le.mpr h2) ⟨rfl, hR⟩)))
  · by_cases h1 : 1 ≤ c
    · have c0 : ¬ nI c < 1 := nI_nlt (b := 1) h1 (by omega)
      have c1 : nI c ≤ 8 := nI_le (b := 8) (by omega) (by decide)
      exact br_f c0 (br_t c1 (br_f c0 (br_t c1 ⟨rfl, bj_mk ⟨h1, by omega, hQ.2.2⟩ hw hL hM⟩)))
    · have c0 : nI c < 1 := nI_lt (b := 1) (by omega) (by decide)
      exact br_t c0 (br_t c0 ⟨rfl, hR⟩)
theorem i_vc_interval {k : Nat} {u : SX} {v : SY} (I : i_Rel k u v) (hk : k + 4 ≤ 2048) (v1 : Int32) : wpX_interval (fun r u' => wpY_interval (fun r' v' => r' = r ∧ i_Rel (k + 4) u' v') v v1) u v1 := by
  obtain ⟨q, r, s, t, p, w, L, M, rfl, rfl, hQ, hw, hL, hM⟩ := I
  have hR : i_Rel (k + 4) (nI q, nI r, nI s, nI t, p, w, L) (nI q, nI r, nI s, nI t, p, M) := bj_mk hQ hw hL hM
  rcases bj_rg v1 5 (by decide) (by decide) with h | ⟨h0, h1, h2⟩ | ⟨c, hc, rfl⟩
  · have h' : v1 < 1 := Int32.lt_trans h (by decide)
    exact br_t h' (br_t h' ⟨rfl, hR⟩)
  · have h' : ¬ v1 < 1 := Int32.not_lt.mpr (Int32.le_trans (by decide : (1 : Int32) ≤ nI 5) h1)
    exact br_f h' (br_f (Int32.not_le.mpr h2) (br_f h' (br_f (Int32.not_le.mpr h2) ⟨rfl, hR⟩)))
  · by_cases h1 : 1 ≤ c
    · have c0 : ¬ nI c < 1 := nI_nlt (b := 1) h1 (by omega)
      have c1 : nI c ≤ 4 := nI_le (b := 4) (by omega) (by decide)
      exact br_f c0 (br_t c1 (br_f c0 (br_t c1 ⟨rfl, bj_mk ⟨hQ.1, hQ.2.1, h1, by omega, hQ.2.2.2.2⟩ hw hL hM⟩)))
    · have c0 : nI c < 1 := nI_lt (b := 1) (by omega) (by decide)
      exact br_t c0 (br_t c0 ⟨rfl, hR⟩)
theorem i_vc_store {k : Nat} {u : SX} {v : SY} (I : i_Rel k u v) (hk : k + 4 ≤ 2048) : wpX_store (fun r u' => wpY_store (fun r' v' => r' = r ∧ i_Rel (k + 4) u' v') v) u := by
  obtain ⟨q, r, s, t, p, w, L, M, rfl, rfl, hQ, hw, hL, hM⟩ := I
  obtain ⟨q1, q2, r1, r2, s1, s2, t1, t2⟩ := hQ
  have hR : i_Rel (k + 4) (nI q, nI r, nI q, nI r, p, w, bj_P (bj_gX p q) L 256) (nI q, nI r, nI q, nI r, p, bj_P (bj_gY p q) M 256) := bj_mk ⟨q1, q2, r1, r2, q1, q2, r1, r2⟩ hw (bj_st_L p L M q) (bj_st_b p q1 q2 hM)
  have hY : ∀ post : Int32 → SY → Prop, post (bj_n (bj_gY p q) 0 + bj_n (bj_gY p q) 1 + bj_n (bj_gY p q) 2 + bj_n (bj_gY p q) 3) (nI q, nI r, nI q, nI r, p, bj_P (bj_gY p q) M 256) → wY_store_18 post (nI q) (nI r) (nI q) (nI r) (256 + 1) 0 p M := by
    intro post h
    have h2 := by_store_lp q1 q2 h 256 0 rfl
    rw [bj_P_0] at h2
    exact h2
  have hX : ∀ post : Int32 → SX → Prop, post (bj_s (fun b => bj_n (bj_gX p q) b) 4) (nI q, nI r, nI q, nI r, p, w, bj_P (bj_gX p q) L 256) → wX_store_20 post (4 + 1) 0 0 (nI q) (nI r) (nI q) (nI r) p w L := by
    intro post h
    have h2 := bx_store_lp hw q1 q2 h 4 0 rfl
    rw [Nat.mul_zero, bj_P_0] at h2
    exact h2
  exact ⟨4 + 1, hX _ ⟨256 + 1, hY _ ⟨(bj_st_n p q).symm, hR⟩⟩⟩
theorem i_vc_lose {k : Nat} {u : SX} {v : SY} (I : i_Rel k u v) (hk : k + 4 ≤ 2048) (v1 : Int32) : wpX_lose (fun r u' => wpY_lose (fun r' v' => r' = r ∧ i_Rel (k + 4) u' v') v v1) u v1 := by
  obtain ⟨q, r, s, t, p, w, L, M, rfl, rfl, hQ, hw, hL, hM⟩ := I
  have hR0 : i_Rel (k + 4) (nI q, nI r, nI s, nI t, p, w, L) (nI q, nI r, nI s, nI t, p, M) := bj_mk hQ hw hL hM
  unfold wpX_lose wpY_lose
  dsimp only
  rcases bj_bl v1 with ⟨b, hb, rfl⟩ | ⟨bX, h | ⟨h, h2⟩⟩
  · obtain ⟨q1, q2, r1, r2, s1, s2, t1, t2⟩ := hQ
    have hR : i_Rel (k + 4) (nI q, nI r, nI s, nI t, p, w, bj_P (bj_lo L t b) L 256) (nI q, nI r, nI s, nI t, p, bj_P (bj_lo M t b) M 256) := bj_mk ⟨q1, q2, r1, r2, s1, s2, t1, t2⟩ hw (bj_lo_L t b hL) (bj_lo_b t b hM)
    have hY : ∀ post : Int32 → SY → Prop, post (bj_s (fun n => if n / 64 / t = b / t then bj_i (M n) else 0) 256) (nI q, nI r, nI s, nI t, p, bj_P (bj_lo M t b) M 256) → wY_lose_16 post (nI b) (nI q) (nI r) (nI s) (nI t) (256 + 1) 0 0 p M := by
      intro post h
      have h2 := by_lose_lp t1 t2 hb h 256 0 rfl
      rw [bj_P_0] at h2
      exact h2
    have hX : ∀ post : Int32 → SX → Prop, post (bj_s (fun o => if o / t = b / t then bj_n L o else 0) 4) (nI q, nI r, nI s, nI t, p, w, bj_P (bj_lo L t b) L 256) → wX_lose_22 post (nI (b / t)) (4 + 1) 0 0 (nI q) (nI r) (nI s) (nI t) p w L := by
      intro post h
      have h2 := bx_lose_lp t1 t2 hb h 4 0 rfl
      rw [Nat.mul_zero, bj_P_0] at h2
      exact h2
    refine bx_bk hb (br_f bj_1 ⟨nI_ne0 (by omega) (by omega), nm_r (pk_div (by omega) (by omega) (by omega)) ⟨4 + 1, hX _ ?_⟩⟩)
    exact br_f (nI_pos (by omega)) (br_t (nI_le (b := 3) (by omega) (by decide)) ⟨256 + 1, hY _ ⟨(bj_lo_n t b hL).symm, hR⟩⟩)
  · refine bX _ (br_t rfl ?_)
    exact br_t h ⟨rfl, hR0⟩
  · refine bX _ (br_t rfl ?_)
    exact br_f h (br_f (Int32.not_le.mpr h2) ⟨rfl, hR0⟩)
theorem i_vc_level {k : Nat} {u : SX} {v : SY} (I : i_Rel k u v) (hk : k + 4 ≤ 2048) (v1 : Int32) (v2 : Int32) (v3 : Int32) : wpX_level (fun r => wpY_level (fun r' => r' = r ∧ i_Rel (k + 4) u v) v v1 v2 v3) u v1 v2 v3 := by
  obtain ⟨q, r, s, t, p, w, L, M, rfl, rfl, hQ, hw, hL, hM⟩ := I
  have hR : i_Rel (k + 4) (nI q, nI r, nI s, nI t, p, w, L) (nI q, nI r, nI s, nI t, p, M) := bj_mk hQ hw hL hM
  unfold wpX_level wpY_level
  dsimp only
  rcases bj_bl v1 with ⟨b, hb, rfl⟩ | ⟨bX, h | ⟨h, h2⟩⟩
  · have b0 : ¬ nI b < 0 := nI_pos (by omega)
    have b1 : ¬ (3 : Int32) < nI b := nI_nlt (a := 3) (by omega) (by decide)
    refine bx_bk hb (br_f bj_1 ?_)
    rcases bj_rg v2 8 (by decide) (by decide) with h | ⟨h0, h1, h2⟩ | ⟨c, hc, rfl⟩
    · exact br_t h (br_t rfl (br_f b0 (br_f b1 (br_t h ⟨rfl, hR⟩))))
    · exact br_f h0 (br_t h1 (br_t rfl (br_f b0 (br_f b1 (br_f h0 (br_t h2 ⟨rfl, hR⟩))))))
    · have c0 : ¬ nI c < 0 := nI_pos (by omega)
      have c1 : ¬ (8 : Int32) ≤ nI c := nI_ge (b := 8) hc (by decide)
      have c2 : ¬ (7 : Int32) < nI c := nI_nlt (a := 7) (by omega) (by decide)
      rcases bj_rg v3 8 (by decide) (by decide) with h | ⟨h0, h1, h2⟩ | ⟨e, he, rfl⟩
      · exact br_f c0 (br_f c1 (br_t h (br_t rfl (br_f b0 (br_f b1 (br_f c0 (br_f c2 (br_t h ⟨rfl, hR⟩))))))))
      · exact br_f c0 (br_f c1 (br_f h0 (br_t h1 (br_t rfl (br_f b0 (br_f b1 (br_f c0 (br_f c2 (br_f h0 (br_f (Int32.not_le.mpr h2) ⟨rfl, hR⟩))))))))))
      · have e0 : ¬ nI e < 0 := nI_pos (by omega)
        have e1 : ¬ (8 : Int32) ≤ nI e := nI_ge (b := 8) he (by decide)
        have e2 : nI e ≤ (7 : Int32) := nI_le (b := 7) (by omega) (by decide)
        have eq : M ((64 : Int32) * nI b + (8 : Int32) * nI e + nI c).toNatClampNeg = L ((64 : Int32) * nI b + (8 : Int32) * nI c + nI e).toNatClampNeg := by
          rw [bj_rd_at (a := M) (bj_ix2 b e c) (by omega), bj_rd_at (a := L) (bj_ix2 b c e) (by omega)]
          exact (hL b c e hb hc he).symm
        exact br_f c0 (br_f c1 (br_f e0 (br_f e1 (br_f bj_1 ⟨pk_in (64 * b + 8 * c + e) 256 (by omega) (bj_ix2 b c e), br_f b0 (br_f b1 (br_f c0 (br_f c2 (br_f e0 (br_t e2 ⟨pk_in (64 * b + 8 * e + c) 256 (by omega) (bj_ix2 b e c), eq, hR⟩)))))⟩))))
  · refine bX _ (br_t rfl ?_)
    exact br_t h ⟨rfl, hR⟩
  · refine bX _ (br_t rfl ?_)
    exact br_f h (br_t h2 ⟨rfl, hR⟩)
theorem i_vc_show {k : Nat} {u : SX} {v : SY} (I : i_Rel k u v) (hk : k + 4 ≤ 2048) (v1 : Int32) (v2 : Int32) : wpX_show (fun r => wpY_show (fun r' => r' = r ∧ i_Rel (k + 4) u v) v v1 v2) u v1 v2 := by
  obtain ⟨q, r, s, t, p, w, L, M, rfl, rfl, hQ, hw, hL, hM⟩ := I
  have hR : i_Rel (k + 4) (nI q, nI r, nI s, nI t, p, w, L) (nI q, nI r, nI s, nI t, p, M) := bj_mk hQ hw hL hM
  rcases bj_px v1 v2 with ⟨a, b, ha, hb, rfl, rfl⟩ | ⟨bX, bY⟩
  · unfold wpX_show
    dsimp only
    refine bx_px ha hb (br_f bj_1 (bx_sg hw hL hM hQ.2.2.2.2.2.1 ha hb ?_))
    exact by_sh ha hb ⟨rfl, hR⟩
  · unfold wpX_show wpY_show
    dsimp only
    refine bX _ (br_t rfl ?_)
    exact bY _ _ _ _ _ _ _ (br_t rfl ⟨rfl, hR⟩)
theorem i_vc_difference {k : Nat} {u : SX} {v : SY} (I : i_Rel k u v) (hk : k + 4 ≤ 2048) : wpX_difference (fun r => wpY_difference (fun r' => r' = r ∧ i_Rel (k + 4) u v) v) u := by
  obtain ⟨q, r, s, t, p, w, L, M, rfl, rfl, hQ, hw, hL, hM⟩ := I
  have hR : i_Rel (k + 4) (nI q, nI r, nI s, nI t, p, w, L) (nI q, nI r, nI s, nI t, p, M) := bj_mk hQ hw hL hM
  exact bx_df hw hL hM hQ.2.2.2.2.2.1 (by_df ⟨rfl, hR⟩)
theorem i_vc_adopt {k : Nat} {u : SX} {v : SY} (I : i_Rel k u v) (hk : k + 4 ≤ 2048) : wpX_adopt (fun r u' => wpY_adopt (fun r' v' => r' = r ∧ i_Rel (k + 4) u' v') v) u := by
  obtain ⟨q, r, s, t, p, w, L, M, rfl, rfl, hQ, hw, hL, hM⟩ := I
  have hR : i_Rel (k + 4) (nI q, nI r, nI s, nI t, bj_P (bj_ad M s) p 256, w, L) (nI q, nI r, nI s, nI t, bj_P (bj_ad M s) p 256, M) := bj_mk hQ hw hL hM
  unfold wpX_adopt wpY_adopt
  dsimp only
  have hY : ∀ (c : Int32) (post : Int32 → SY → Prop), post c (nI q, nI r, nI s, nI t, bj_P (bj_ad M s) p 256, M) → wY_adopt_7 post c (nI q) (nI r) (nI s) (nI t) (256 + 1) 0 p M := by
    intro c post h
    have h2 := by_ad h 256 0 rfl
    rw [bj_P_0] at h2
    exact h2
  have hX : ∀ (c : Int32) (post : Int32 → SX → Prop), post c (nI q, nI r, nI s, nI t, bj_P (bj_ad M s) p 256, w, L) → wX_adopt_7 post c (nI q) (nI r) (nI s) (nI t) (16 + 1) 0 p w L := by
    intro c post h
    have h2 := bx_ad_out hw hL hM hQ.2.2.2.2.2.1 h 16 0 rfl
    rw [Nat.mul_zero, bj_P_0] at h2
    exact h2
  refine bx_df hw hL hM hQ.2.2.2.2.2.1 ⟨16 + 1, hX _ _ ?_⟩
  exact by_df ⟨256 + 1, hY _ _ ⟨rfl, hR⟩⟩
theorem i_vc_weight {k : Nat} {u : SX} {v : SY} (I : i_Rel k u v) (hk : k + 4 ≤ 2048) (v1 : Int32) : wpX_weight (fun r => wpY_weight (fun r' => r' = r ∧ i_Rel (k + 4) u v) v v1) u v1 := by
  obtain ⟨q, r, s, t, p, w, L, M, rfl, rfl, hQ, hw, hL, hM⟩ := I
  have hR : i_Rel (k + 4) (nI q, nI r, nI s, nI t, p, w, L) (nI q, nI r, nI s, nI t, p, M) := bj_mk hQ hw hL hM
  rcases bj_bl v1 with ⟨b, hb, rfl⟩ | ⟨bX, h⟩
  · unfold wpX_weight
    dsimp only
    refine bx_bk hb (br_f bj_1 (bx_cn hb ?_))
    exact by_cn hb ⟨(bj_n_tr b (fun u v hu hv => hL b u v hb hu hv)).symm, hR⟩
  · unfold wpX_weight wpY_weight
    dsimp only
    refine bX _ (br_t rfl ?_)
    rcases h with h | ⟨h, h2⟩
    · exact br_t h ⟨rfl, hR⟩
    · exact br_f h (br_f (Int32.not_le.mpr h2) ⟨rfl, hR⟩)
end
