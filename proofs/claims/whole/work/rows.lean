section
theorem pk_us {f : Nat → Int32} {k : Nat} {x : Int32} : upd f k x k = x := if_pos rfl
theorem pk_un {f : Nat → Int32} {k j : Nat} {x : Int32} (h : j ≠ k) : upd f k x j = f j := if_neg h
theorem pk_sub {a b : Nat} (h : b ≤ a) : nI a - nI b = nI (a - b) := by
  obtain ⟨c, rfl⟩ : ∃ c, a = c + b := ⟨a - b, by omega⟩
  rw [← nI_add, Int32.add_sub_cancel, Nat.add_sub_cancel]
theorem pk_m1 (n : Nat) : nI (n + 1) + (-1) = nI n := by
  rw [← nI_1, Int32.add_assoc, show (1 : Int32) + (-1) = 0 from rfl, Int32.add_zero]
theorem pk_mul (a b : Nat) : nI a * nI b = nI (a * b) := (Int32.ofNat_mul a b).symm
theorem pk_div {a d : Nat} (ha : a < 2 ^ 31) (h0 : 0 < d) (hd : d < 2 ^ 31) : nI a / nI d = nI (a / d) := by
  apply Int32.toInt_inj.mp
  rw [lg_idiv_nonneg (by rw [nI_toInt ha]; omega) (by rw [nI_toInt hd]; omega), nI_toInt ha, nI_toInt hd, nI_toInt (Nat.lt_of_le_of_lt (Nat.div_le_self a d) ha)]
  first | rfl | exact (Int.natCast_ediv _ _).symm
theorem pk_rem {a d : Nat} (ha : a < 2 ^ 31) (h0 : 0 < d) (hd : d < 2 ^ 31) : nI a - nI a / nI d * nI d = nI (a % d) := by
  rw [pk_div ha h0 hd, pk_mul, pk_sub (Nat.div_mul_le_self a d)]
  exact congrArg nI (by have := Nat.div_add_mod' a d; omega)
theorem pk_sub_toInt {a b : Nat} (ha : a < 2 ^ 30) (hb : b < 2 ^ 30) : (nI a - nI b).toInt = (a : Int) - b := by
  rw [Int32.toInt_sub, nI_toInt (by omega), nI_toInt (by omega)]
  exact Int.bmod_eq_of_le (by omega) (by omega)
theorem pk_ix (x : Int32) {n : Nat} (hn : n < 2 ^ 31) : x < 0 ∨ nI n ≤ x ∨ ∃ j : Nat, j < n ∧ x = nI j := by
  by_cases h : x < 0
  · exact Or.inl h
  · obtain ⟨j, hj, rfl⟩ := nI_of h
    by_cases h2 : j < n
    · exact Or.inr (Or.inr ⟨j, h2, rfl⟩)
    · exact Or.inr (Or.inl (nI_le (by omega) hj))
theorem pk_le {x y : Int32} {A B : Prop} (a b : Nat) (f : a ≤ b → A) (g : b < a → B) (hx : x = nI a := by rfl) (hy : y = nI b := by rfl) (ha : a < 2 ^ 31 := by omega) (hb : b < 2 ^ 31 := by omega) : (x ≤ y → A) ∧ (¬ x ≤ y → B) := by
  subst hx hy
  rw [nI_leI ha hb]
  exact ⟨f, fun z => g (by omega)⟩
theorem pk_lt {x y : Int32} {A B : Prop} (a b : Nat) (f : a < b → A) (g : b ≤ a → B) (hx : x = nI a := by rfl) (hy : y = nI b := by rfl) (ha : a < 2 ^ 31 := by omega) (hb : b < 2 ^ 31 := by omega) : (x < y → A) ∧ (¬ x < y → B) := by
  subst hx hy
  rw [nI_ltI ha hb]
  exact ⟨f, fun z => g (by omega)⟩
theorem pk_eq {x y : Int32} {A B : Prop} (a b : Nat) (f : a = b → A) (g : a ≠ b → B) (hx : x = nI a := by rfl) (hy : y = nI b := by rfl) (ha : a < 2 ^ 31 := by omega) (hb : b < 2 ^ 31 := by omega) : (x = y → A) ∧ (¬ x = y → B) := by
  subst hx hy
  rw [nI_eq ha hb]
  exact ⟨f, g⟩
theorem pk_in {x : Int32} (n N : Nat) (h : n < N) (hx : x = nI n := by rfl) (hN : N < 2 ^ 31 := by omega) : vp_in x N := by
  subst hx
  exact vp_in_nI h hN
theorem pk_cl {x : Int32} (n : Nat) (hx : x = nI n := by rfl) (h : n < 2 ^ 31 := by omega) : x.toNatClampNeg = n := by
  subst hx
  exact nI_clamp h
theorem pk_tn {n : Nat} (h : n < 2 ^ 32) : (nI n).toBitVec.toNat = n := Nat.mod_eq_of_lt h
theorem pk_and (x : Int32) {m : Int32} (k : Nat) (hm : m.toBitVec.toNat = 2 ^ k - 1) : x &&& m = nI (x.toBitVec.toNat % 2 ^ k) := by
  apply Int32.toBitVec_inj.mp
  apply BitVec.eq_of_toNat_eq
  rw [Int32.toBitVec_and, BitVec.toNat_and, hm, Nat.and_two_pow_sub_one_eq_mod]
  show _ = (BitVec.ofNat 32 _).toNat
  rw [BitVec.toNat_ofNat]
  exact (Nat.mod_eq_of_lt (Nat.lt_of_le_of_lt (Nat.mod_le _ _) x.toBitVec.isLt)).symm
theorem pk_andN {n : Nat} (h : n < 2 ^ 32) {m : Int32} (k : Nat) (hm : m.toBitVec.toNat = 2 ^ k - 1) : nI n &&& m = nI (n % 2 ^ k) := by
  rw [pk_and _ k hm, pk_tn h]
theorem pk_shr (a s : Int32) (k : Nat) (hs : (s.toBitVec.smod 32).toNat = k) : (a >>> s).toInt = a.toInt >>> k := by
  show (a.toBitVec.sshiftRight (s.toBitVec.smod 32).toNat).toInt = _
  rw [hs, BitVec.toInt_sshiftRight]
  rfl
theorem pk_shrN {n : Nat} (h : n < 2 ^ 31) (s : Int32) (k : Nat) (hs : (s.toBitVec.smod 32).toNat = k) : nI n >>> s = nI (n / 2 ^ k) := by
  apply Int32.toInt_inj.mp
  have h2 : n / 2 ^ k ≤ n := Nat.div_le_self _ _
  rw [pk_shr _ _ k hs, nI_toInt h, nI_toInt (by omega), Int.shiftRight_eq_div_pow]
  rfl
theorem pk_loop {σ : Type} (W : Nat → Nat → σ → Prop) (I : Nat → σ → Prop) (e i0 : Nat) (s : σ) (hi : i0 ≤ e) (h0 : I i0 s) (hx : ∀ n s, I e s → W (n + 1) e s)
    (hs : ∀ n i s, i < e → I i s → (∀ s', I (i + 1) s' → W n (i + 1) s') → W (n + 1) i s) : ∃ n, W n i0 s :=
  ⟨e + 1, loop_i W I e hx hs (e + 1) i0 s hi (by omega) h0⟩
end
section
/-! sums, counts, waves, levels, what is shown: plain functions -/
def bj_s (f : Nat → Int32) : Nat → Int32
  | 0 => 0
  | n + 1 => bj_s f n + f n
def bj_S (f : Nat → Int64) : Nat → Int64
  | 0 => 0
  | n + 1 => bj_S f n + f n
theorem bj_s_cg {f g : Nat → Int32} : ∀ n : Nat, (∀ i, i < n → f i = g i) → bj_s f n = bj_s g n := by
  intro n
  induction n with
  | zero => intro _; rfl
  | succ n ih =>
    intro h
    show bj_s f n + f n = bj_s g n + g n
    rw [ih (fun i hi => h i (by omega)), h n (by omega)]
theorem bj_s_z : ∀ n : Nat, bj_s (fun _ => 0) n = 0 := by
  intro n
  induction n with
  | zero => rfl
  | succ n ih =>
    show bj_s (fun _ => 0) n + 0 = 0
    rw [ih, Int32.add_zero]
theorem bj_s_ad (f g : Nat → Int32) : ∀ n : Nat, bj_s (fun i => f i + g i) n = bj_s f n + bj_s g n := by
  intro n
  induction n with
  | zero => exact (Int32.add_zero 0).symm
  | succ n ih =>
    show bj_s (fun i => f i + g i) n + (f n + g n) = (bj_s f n + f n) + (bj_s g n + g n)
    rw [ih]
    grind
theorem bj_s_sw (f : Nat → Nat → Int32) (m : Nat) : ∀ n : Nat, bj_s (fun i => bj_s (fun j => f i j) m) n = bj_s (fun j => bj_s (fun i => f i j) n) m := by
  intro n
  induction n with
  | zero => exact (bj_s_z m).symm
  | succ n ih =>
    show bj_s (fun i => bj_s (fun j => f i j) m) n + bj_s (fun j => f n j) m = bj_s (fun j => bj_s (fun i => f i j) n + f n j) m
    rw [ih]
    exact (bj_s_ad (fun j => bj_s (fun i => f i j) n) (fun j => f n j) m).symm
theorem bj_s_ap (f : Nat → Int32) (a : Nat) : ∀ b : Nat, bj_s f (a + b) = bj_s f a + bj_s (fun i => f (a + i)) b := by
  intro b
  induction b with
  | zero => exact (Int32.add_zero _).symm
  | succ b ih =>
    show bj_s f (a + b) + f (a + b) = bj_s f a + (bj_s (fun i => f (a + i)) b + f (a + b))
    rw [ih, Int32.add_assoc]
theorem bj_s_ml (f : Nat → Int32) (c : Nat) : ∀ m : Nat, bj_s f (c * m) = bj_s (fun o => bj_s (fun k => f (c * o + k)) c) m := by
  intro m
  induction m with
  | zero => rfl
  | succ m ih =>
    show bj_s f (c * m + c) = bj_s (fun o => bj_s (fun k => f (c * o + k)) c) m + bj_s (fun k => f (c * m + k)) c
    rw [bj_s_ap, ih]
theorem bj_S_cg {f g : Nat → Int64} : ∀ n : Nat, (∀ i, i < n → f i = g i) → bj_S f n = bj_S g n := by
  intro n
  induction n with
  | zero => intro _; rfl
  | succ n ih =>
    intro h
    show bj_S f n + f n = bj_S g n + g n
    rw [ih (fun i hi => h i (by omega)), h n (by omega)]
theorem bj_S_z : ∀ n : Nat, bj_S (fun _ => 0) n = 0 := by
  intro n
  induction n with
  | zero => rfl
  | succ n ih =>
    show bj_S (fun _ => 0) n + 0 = 0
    rw [ih, Int64.add_zero]
theorem bj_S_ad (f g : Nat → Int64) : ∀ n : Nat, bj_S (fun i => f i + g i) n = bj_S f n + bj_S g n := by
  intro n
  induction n with
  | zero => exact (Int64.add_zero 0).symm
  | succ n ih =>
    show bj_S (fun i => f i + g i) n + (f n + g n) = (bj_S f n + f n) + (bj_S g n + g n)
    rw [ih]
    grind
theorem bj_S_sw (f : Nat → Nat → Int64) (m : Nat) : ∀ n : Nat, bj_S (fun i => bj_S (fun j => f i j) m) n = bj_S (fun j => bj_S (fun i => f i j) n) m := by
  intro n
  induction n with
  | zero => exact (bj_S_z m).symm
  | succ n ih =>
    show bj_S (fun i => bj_S (fun j => f i j) m) n + bj_S (fun j => f n j) m = bj_S (fun j => bj_S (fun i => f i j) n + f n j) m
    rw [ih]
    exact (bj_S_ad (fun j => bj_S (fun i => f i j) n) (fun j => f n j) m).symm
/-! how many of a block are not 0 -/
def bj_i (x : Int32) : Int32 := if x = 0 then 0 else 1
def bj_n (a : Nat → Int32) (b : Nat) : Int32 := bj_s (fun k => bj_i (a (64 * b + k))) 64
theorem bj_n_cg {a c : Nat → Int32} (b : Nat) (h : ∀ k, k < 64 → a (64 * b + k) = c (64 * b + k)) : bj_n a b = bj_n c b :=
  bj_s_cg 64 (fun k hk => congrArg bj_i (h k hk))
theorem bj_n_tr {L M : Nat → Int32} (b : Nat) (h : ∀ u v, u < 8 → v < 8 → L (64 * b + 8 * u + v) = M (64 * b + 8 * v + u)) : bj_n L b = bj_n M b := by
  have e1 : bj_n L b = bj_s (fun u => bj_s (fun v => bj_i (L (64 * b + (8 * u + v)))) 8) 8 := bj_s_ml (fun k => bj_i (L (64 * b + k))) 8 8
  have e2 : bj_n M b = bj_s (fun u => bj_s (fun v => bj_i (M (64 * b + (8 * u + v)))) 8) 8 := bj_s_ml (fun k => bj_i (M (64 * b + k))) 8 8
  rw [e1, e2, bj_s_sw (fun u v => bj_i (L (64 * b + (8 * u + v)))) 8 8]
  refine bj_s_cg 8 (fun v hv => bj_s_cg 8 (fun u hu => ?_))
  show bj_i (L (64 * b + (8 * u + v))) = bj_i (M (64 * b + (8 * v + u)))
  rw [← Nat.add_assoc, ← Nat.add_assoc, h u v hu hv]
/-! the waves -/
def bj_c (t : Nat) : Int32 := if t = 0 then 64 else if t = 1 then 63 else if t = 2 then 59 else if t = 3 then 53 else if t = 4 then 45 else if t = 5 then 36 else if t = 6 then 24 else if t = 7 then 12 else 0
def bj_C (t : Nat) : Int32 := if t ≤ 8 then bj_c t else if t ≤ 16 then -bj_c (16 - t) else if t ≤ 24 then -bj_c (t - 16) else bj_c (32 - t)
def bj_K (u i : Nat) : Int32 := bj_C ((2 * i + 1) * u % 32)
theorem bj_Cb : ∀ t, t < 32 → (bj_C t).toInt.natAbs ≤ 64 := by decide +kernel
theorem bj_Kb (u i : Nat) : (bj_K u i).toInt.natAbs ≤ 64 := bj_Cb _ (Nat.mod_lt _ (by decide))
theorem bj_mulL {a b : Int32} (ha : a.toInt.natAbs ≤ 64) (hb : b.toInt.natAbs ≤ 64) : (a * b).toInt64 = a.toInt64 * b.toInt64 := by
  apply Int64.toInt_inj.mp
  have h : (a.toInt * b.toInt).natAbs ≤ 64 * 64 := by
    rw [Int.natAbs_mul]
    exact Nat.mul_le_mul ha hb
  rw [Int32.toInt_toInt64, Int32.toInt_mul, Int64.toInt_mul, Int32.toInt_toInt64, Int32.toInt_toInt64]
  generalize a.toInt * b.toInt = z at h ⊢
  rw [Int.bmod_eq_of_le (by omega) (by omega), Int.bmod_eq_of_le (by omega) (by omega)]
/-! bounds -/
def bj_B (A : Nat) (x : Int64) : Prop := x.toInt.natAbs ≤ A
theorem bj_Bm {A B : Nat} {x y : Int64} (hx : bj_B A x) (hy : bj_B B y) (h : A * B < 4611686018427387904) : bj_B (A * B) (x * y) := by
  have h1 : (x.toInt * y.toInt).natAbs ≤ A * B := by
    rw [Int.natAbs_mul]
    exact Nat.mul_le_mul hx hy
  show (x * y).toInt.natAbs ≤ A * B
  rw [Int64.toInt_mul]
  generalize x.toInt * y.toInt = z at h1 ⊢
  generalize A * B = c at h1 h ⊢
  rw [Int.bmod_eq_of_le (by omega) (by omega)]
  exact h1
theorem bj_Ba {A B : Nat} {x y : Int64} (hx : bj_B A x) (hy : bj_B B y) (h : A + B < 4611686018427387904) : bj_B (A + B) (x + y) := by
  have h1 : x.toInt.natAbs ≤ A := hx
  have h2 : y.toInt.natAbs ≤ B := hy
  show (x + y).toInt.natAbs ≤ A + B
  rw [Int64.toInt_add]
  generalize x.toInt = z at h1 ⊢
  generalize y.toInt = w at h2 ⊢
  rw [Int.bmod_eq_of_le (by omega) (by omega)]
  omega
theorem bj_BS {f : Nat → Int64} {A : Nat} : ∀ n : Nat, (∀ i, i < n → bj_B A (f i)) → n * A < 4611686018427387904 → bj_B (n * A) (bj_S f n) := by
  intro n
  induction n with
  | zero =>
    intro _ _
    show (0 : Int64).toInt.natAbs ≤ 0 * A
    rw [show (0 : Int64).toInt = 0 from by decide]
    exact Nat.zero_le _
  | succ n ih =>
    intro h hn
    rw [Nat.succ_mul] at hn ⊢
    exact bj_Ba (ih (fun i hi => h i (by omega)) (by omega)) (h n (by omega)) hn
/-! what is shown -/
def bj_e (u : Nat) : Int32 := if u = 0 then 1 else 2
def bj_D (q u v : Nat) : Nat := 8192 * q * (2 + u + v)
theorem bj_D_le {q u v : Nat} (hq : q ≤ 8) (hu : u < 8) (hv : v < 8) : bj_D q u v ≤ 1048576 :=
  Nat.mul_le_mul (Nat.mul_le_mul_left 8192 hq) (show 2 + u + v ≤ 16 by omega)
theorem bj_D_ge {q u v : Nat} (hq : 1 ≤ q) : 16384 ≤ bj_D q u v :=
  Nat.mul_le_mul (Nat.mul_le_mul_left 8192 hq) (show 2 ≤ 2 + u + v by omega)
theorem bj_eb (u v : Nat) : (bj_e u * bj_e v).toInt.natAbs ≤ 4 := by
  unfold bj_e
  by_cases hu : u = 0
  · by_cases hv : v = 0
    · rw [if_pos hu, if_pos hv]; decide
    · rw [if_pos hu, if_neg hv]; decide
  · by_cases hv : v = 0
    · rw [if_neg hu, if_pos hv]; decide
    · rw [if_neg hu, if_neg hv]; decide
def bj_t (M : Nat → Int32) (q b i j u v : Nat) : Int64 := (bj_e u * bj_e v).toInt64 * (M (64 * b + 8 * v + u)).toInt64 * (nI (bj_D q u v)).toInt64 * (bj_K u i).toInt64 * (bj_K v j).toInt64
def bj_T (M : Nat → Int32) (q b i j : Nat) : Int64 := bj_S (fun v => bj_S (fun u => bj_t M q b i j u v) 8) 8
theorem bj_BI {A : Nat} {x : Int32} (h : x.toInt.natAbs ≤ A) : bj_B A x.toInt64 := by
  show x.toInt64.toInt.natAbs ≤ A
  rw [Int32.toInt_toInt64]
  exact h
theorem bj_Bt {M : Nat → Int32} {q : Nat} (hM : ∀ n, (M n).toInt.natAbs ≤ 65536) (hq : q ≤ 8) (b i j : Nat) {u v : Nat} (hu : u < 8) (hv : v < 8) :
    bj_B (4 * 65536 * 1048576 * 64 * 64) (bj_t M q b i j u v) := by
  have hD : (nI (bj_D q u v)).toInt.natAbs ≤ 1048576 := by
    have h := bj_D_le hq hu hv
    rw [nI_toInt (by omega)]
    omega
  exact bj_Bm (bj_Bm (bj_Bm (bj_Bm (bj_BI (bj_eb u v)) (bj_BI (hM _)) (by decide)) (bj_BI hD) (by decide)) (bj_BI (bj_Kb u i)) (by decide)) (bj_BI (bj_Kb v j)) (by decide)
theorem bj_BT {M : Nat → Int32} {q : Nat} (hM : ∀ n, (M n).toInt.natAbs ≤ 65536) (hq : q ≤ 8) (b i j : Nat) : bj_B (8 * (8 * (4 * 65536 * 1048576 * 64 * 64))) (bj_T M q b i j) :=
  bj_BS 8 (fun v hv => bj_BS 8 (fun u hu => bj_Bt hM hq b i j hu hv) (by decide)) (by decide)
def bj_z (T : Int64) : Int64 := (T + 536870912) >>> ((30 : Int32).toInt64 &&& 63)
theorem bj_z_i {T : Int64} (h : bj_B 72057594037927936 T) : (bj_z T).toInt = (T.toInt + 536870912) / 1073741824 := by
  show ((T + 536870912).toBitVec.sshiftRight (((30 : Int32).toInt64 &&& 63).toBitVec.smod 64).toNat).toInt = _
  rw [show (((30 : Int32).toInt64 &&& 63).toBitVec.smod 64).toNat = 30 from by decide, BitVec.toInt_sshiftRight]
  show (T + 536870912).toInt >>> 30 = _
  rw [Int.shiftRight_eq_div_pow, Int64.toInt_add, show (536870912 : Int64).toInt = 536870912 from by decide]
  have h1 : T.toInt.natAbs ≤ 72057594037927936 := h
  generalize T.toInt = z at h1 ⊢
  rw [Int.bmod_eq_of_le (by omega) (by omega)]
  first | done | rfl
/-- the grey value nearest to g -/
def bj_cl (g : Int32) : Int32 := if g < 0 then 0 else if 255 < g then 255 else g
def bj_yz (z : Int64) : Int32 := if z < -128 then 0 else if 127 < z then 255 else 128 + z.toInt32
theorem bj_xy {T : Int64} (h : bj_B 72057594037927936 T) : bj_cl (128 + (bj_z T).toInt32) = bj_yz (bj_z T) := by
  have e := bj_z_i h
  have h1 : T.toInt.natAbs ≤ 72057594037927936 := h
  have hz : -134217728 ≤ (bj_z T).toInt ∧ (bj_z T).toInt ≤ 134217728 := by
    rw [e]
    generalize T.toInt = z at h1 ⊢
    omega
  generalize bj_z T = z at hz ⊢
  have e1 : z.toInt32.toInt = z.toInt := by
    rw [Int64.toInt_toInt32]
    exact Int.bmod_eq_of_le (by omega) (by omega)
  have e2 : (128 + z.toInt32).toInt = 128 + z.toInt := by
    rw [Int32.toInt_add, e1, show (128 : Int32).toInt = 128 from by decide]
    exact Int.bmod_eq_of_le (by omega) (by omega)
  unfold bj_cl bj_yz
  have c1 : (128 + z.toInt32 < 0) ↔ (z < -128) := by
    rw [Int32.lt_iff_toInt_lt, Int64.lt_iff_toInt_lt, e2, show (0 : Int32).toInt = 0 from by decide, show (-128 : Int64).toInt = -128 from by decide]
    omega
  have c2 : (255 < 128 + z.toInt32) ↔ (127 < z) := by
    rw [Int32.lt_iff_toInt_lt, Int64.lt_iff_toInt_lt, e2, show (255 : Int32).toInt = 255 from by decide, show (127 : Int64).toInt = 127 from by decide]
    omega
  by_cases d1 : z < -128
  · rw [if_pos d1, if_pos (c1.mpr d1)]
  · rw [if_neg d1, if_neg (fun k => d1 (c1.mp k))]
    by_cases d2 : 127 < z
    · rw [if_pos d2, if_pos (c2.mpr d2)]
    · rw [if_neg d2, if_neg (fun k => d2 (c2.mp k))]
/-- pixel (x, y) as shown -/
def bj_sh (M : Nat → Int32) (q x y : Nat) : Int32 := bj_yz (bj_z (bj_T M q (2 * (y / 8) + x / 8) (x % 8) (y % 8)))
/-- what the component adds up -/
def bj_tx (L : Nat → Int32) (q b i j u v : Nat) : Int64 := (bj_e u * bj_e v).toInt64 * ((L (64 * b + 8 * u + v)).toInt64 * (nI (bj_D q u v)).toInt64) * (bj_K u i * bj_K v j).toInt64
def bj_TX (L : Nat → Int32) (q b i j : Nat) : Int64 := bj_S (fun u => bj_S (fun v => bj_tx L q b i j u v) 8) 8
theorem bj_TX_T {L M : Nat → Int32} (q b i j : Nat) (h : ∀ u v, u < 8 → v < 8 → L (64 * b + 8 * u + v) = M (64 * b + 8 * v + u)) : bj_TX L q b i j = bj_T M q b i j := by
  unfold bj_TX bj_T
  rw [bj_S_sw (fun u v => bj_tx L q b i j u v) 8 8]
  refine bj_S_cg 8 (fun v hv => bj_S_cg 8 (fun u hu => ?_))
  show bj_tx L q b i j u v = bj_t M q b i j u v
  unfold bj_tx bj_t
  rw [h u v hu hv, bj_mulL (bj_Kb u i) (bj_Kb v j)]
  simp only [Int64.mul_assoc]
/-! the levels -/
def bj_sm (p : Nat → Int32) (b u v : Nat) : Int32 := bj_s (fun j => bj_s (fun i => (p (128 * (b / 2) + 8 * (b % 2) + 16 * j + i) - 128) * bj_K u i * bj_K v j) 8) 8
def bj_ab (s : Int32) : Int32 := if s < 0 then -s else s
def bj_rd (s d : Int32) : Int32 := if s < 0 then -((2 * bj_ab s + d) / (2 * d)) else (2 * bj_ab s + d) / (2 * d)
def bj_lv (p : Nat → Int32) (q b u v : Nat) : Int32 := bj_rd (bj_sm p b u v) (nI (bj_D q u v))
theorem bj_dv (x : Int32) {e : Nat} (h1 : 32768 ≤ e) (h2 : e < 2147483648) : (x / nI e).toInt.natAbs ≤ 65536 := by
  have hn : nI e ≠ -1 := by
    intro h
    have h3 := congrArg Int32.toInt h
    rw [nI_toInt h2, show (-1 : Int32).toInt = -1 from by decide] at h3
    omega
  rw [Int32.toInt_div_of_ne_right x (nI e) hn, Int.natAbs_tdiv, nI_toInt h2]
  show x.toInt.natAbs / e ≤ 65536
  have a := Int32.toInt_lt x
  have b := Int32.le_toInt x
  generalize x.toInt = z at a b ⊢
  exact Nat.div_le_of_le_mul (by omega)
theorem bj_ng {x : Int32} (h : x.toInt.natAbs ≤ 65536) : (-x).toInt.natAbs ≤ 65536 := by
  rw [Int32.toInt_neg]
  generalize x.toInt = z at h ⊢
  rw [Int.bmod_eq_of_le (by omega) (by omega)]
  omega
theorem bj_2D (q u v : Nat) : 2 * nI (bj_D q u v) = nI (2 * bj_D q u v) := pk_mul 2 _
theorem bj_2D0 {q u v : Nat} (h1 : 1 ≤ q) (hq : q ≤ 8) (hu : u < 8) (hv : v < 8) : ¬ 2 * nI (bj_D q u v) = 0 := by
  have a := bj_D_ge (u := u) (v := v) h1
  have b := bj_D_le hq hu hv
  rw [bj_2D]
  exact nI_ne0 (by omega) (by omega)
theorem bj_lv_b (p : Nat → Int32) {q u v : Nat} (b : Nat) (h1 : 1 ≤ q) (hq : q ≤ 8) (hu : u < 8) (hv : v < 8) : (bj_lv p q b u v).toInt.natAbs ≤ 65536 := by
  have ha := bj_D_ge (u := u) (v := v) h1
  have hb := bj_D_le hq hu hv
  unfold bj_lv bj_rd
  rw [bj_2D]
  by_cases hs : bj_sm p b u v < 0
  · rw [if_pos hs]
    exact bj_ng (bj_dv _ (by omega) (by omega))
  · rw [if_neg hs]
    exact bj_dv _ (by omega) (by omega)
end
section
/-! indices, shifts, masks; arrays that are written from the left -/
theorem bj_ix1 (y x : Nat) : (16 : Int32) * nI y + nI x = nI (16 * y + x) := by
  show nI 16 * nI y + nI x = _
  rw [pk_mul, nI_add]
theorem bj_ix3 (u i : Nat) : (8 : Int32) * nI u + nI i = nI (8 * u + i) := by
  show nI 8 * nI u + nI i = _
  rw [pk_mul, nI_add]
theorem bj_ix4 (b k : Nat) : (64 : Int32) * nI b + nI k = nI (64 * b + k) := by
  show nI 64 * nI b + nI k = _
  rw [pk_mul, nI_add]
theorem bj_ix2 (b u v : Nat) : (64 : Int32) * nI b + (8 : Int32) * nI u + nI v = nI (64 * b + 8 * u + v) := by
  show nI 64 * nI b + nI 8 * nI u + nI v = _
  rw [pk_mul, pk_mul, nI_add, nI_add]
theorem bj_ix5 (t j l i : Nat) : (16 : Int32) * (nI t + nI j) + nI l + nI i = nI (16 * (t + j) + l + i) := by
  show nI 16 * (nI t + nI j) + nI l + nI i = _
  rw [nI_add, pk_mul, nI_add, nI_add]
theorem bj_ix6 (c j i : Nat) : nI c + (16 : Int32) * nI j + nI i = nI (c + 16 * j + i) := by
  show nI c + nI 16 * nI j + nI i = _
  rw [pk_mul, nI_add, nI_add]
theorem bj_ix7 (a b : Nat) : (128 : Int32) * nI a + (8 : Int32) * nI b = nI (128 * a + 8 * b) := by
  show nI 128 * nI a + nI 8 * nI b = _
  rw [pk_mul, pk_mul, nI_add]
theorem bj_D_eq (q u v : Nat) : (8192 : Int32) * nI q * ((2 : Int32) + nI u + nI v) = nI (bj_D q u v) := by
  show nI 8192 * nI q * (nI 2 + nI u + nI v) = nI (8192 * q * (2 + u + v))
  rw [pk_mul, nI_add, nI_add, pk_mul]
theorem bj_t_eq {u i : Nat} (hu : u < 8) (hi : i < 8) : ((2 : Int32) * nI i + 1) * nI u - ((2 : Int32) * nI i + 1) * nI u / 32 * 32 = nI ((2 * i + 1) * u % 32) := by
  have e : ((2 : Int32) * nI i + 1) * nI u = nI ((2 * i + 1) * u) := by
    show (nI 2 * nI i + nI 1) * nI u = _
    rw [pk_mul, nI_add, pk_mul]
  rw [e]
  have h : (2 * i + 1) * u ≤ 15 * 7 := Nat.mul_le_mul (by omega) (by omega)
  exact pk_rem (d := 32) (by omega) (by decide) (by decide)
theorem bj_a15 {n : Nat} (h : n < 256) : nI n &&& 15 = nI (n % 16) := pk_andN (by omega) 4 (by decide)
theorem bj_a7 {n : Nat} (h : n < 256) : nI n &&& 7 = nI (n % 8) := pk_andN (by omega) 3 (by decide)
theorem bj_a1 {n : Nat} (h : n < 256) : nI n &&& 1 = nI (n % 2) := pk_andN (by omega) 1 (by decide)
theorem bj_r4 {n : Nat} (h : n < 256) : nI n >>> ((4 : Int32) &&& 31) = nI (n / 16) := pk_shrN (by omega) _ 4 (by decide)
theorem bj_r6 {n : Nat} (h : n < 256) : nI n >>> ((6 : Int32) &&& 31) = nI (n / 64) := pk_shrN (by omega) _ 6 (by decide)
theorem bj_r3 {n : Nat} (h : n < 256) : nI n >>> ((3 : Int32) &&& 31) = nI (n / 8) := pk_shrN (by omega) _ 3 (by decide)
theorem bj_sl : ∀ s, s < 4 → ((nI s &&& 31).toBitVec.smod 32).toNat = s := by decide +kernel
theorem bj_rs {n s : Nat} (h : n < 256) (hs : s < 4) : nI n >>> (nI s &&& 31) = nI (n / 2 ^ s) := pk_shrN (by omega) _ s (bj_sl s hs)
theorem bj_d8 {n : Nat} (h : n < 256) : nI n / 8 = nI (n / 8) := pk_div (d := 8) (by omega) (by decide) (by decide)
theorem bj_d2 {n : Nat} (h : n < 256) : nI n / 2 = nI (n / 2) := pk_div (d := 2) (by omega) (by decide) (by decide)
theorem bj_m8 {n : Nat} (h : n < 256) : nI n - nI n / 8 * 8 = nI (n % 8) := pk_rem (d := 8) (by omega) (by decide) (by decide)
theorem bj_m2 {n : Nat} (h : n < 256) : nI n - nI n / 2 * 2 = nI (n % 2) := pk_rem (d := 2) (by omega) (by decide) (by decide)
theorem bj_bk (x y : Nat) : (2 : Int32) * nI y + nI x = nI (2 * y + x) := by
  show nI 2 * nI y + nI x = _
  rw [pk_mul, nI_add]
/-- the first k cells are g's, the others p's -/
def bj_P (g p : Nat → Int32) (k : Nat) : Nat → Int32 := fun m => if m < k then g m else p m
theorem bj_P_0 (g p : Nat → Int32) : bj_P g p 0 = p := funext fun m => if_neg (Nat.not_lt_zero m)
theorem bj_P_lt {g p : Nat → Int32} {k m : Nat} (h : m < k) : bj_P g p k m = g m := if_pos h
theorem bj_P_ge {g p : Nat → Int32} {k m : Nat} (h : k ≤ m) : bj_P g p k m = p m := if_neg (by omega)
theorem bj_P_u {g p : Nat → Int32} {k : Nat} {x : Int32} (h : x = g k) : upd (bj_P g p k) k x = bj_P g p (k + 1) := by
  funext m
  show (if m = k then x else if m < k then g m else p m) = if m < k + 1 then g m else p m
  by_cases h1 : m = k
  · subst h1
    rw [if_pos rfl, if_pos (by omega), h]
  · rw [if_neg h1]
    by_cases h2 : m < k
    · rw [if_pos h2, if_pos (by omega)]
    · rw [if_neg h2, if_neg (by omega)]
theorem bj_P_sk {g p : Nat → Int32} {k k' : Nat} (hk : k ≤ k') (h : ∀ m, k ≤ m → m < k' → g m = p m) : bj_P g p k = bj_P g p k' := by
  funext m
  show (if m < k then g m else p m) = if m < k' then g m else p m
  by_cases h1 : m < k
  · rw [if_pos h1, if_pos (by omega)]
  · rw [if_neg h1]
    by_cases h2 : m < k'
    · rw [if_pos h2, h m (by omega) h2]
    · rw [if_neg h2]
/-- as bj_P_u, at an index that is written in ints -/
theorem bj_P_w {g p : Nat → Int32} {k : Nat} {x i : Int32} (hi : i = nI k) (hk : k < 2147483648) (h : x = g k) : upd (bj_P g p k) i.toNatClampNeg x = bj_P g p (k + 1) := by
  rw [hi, nI_clamp hk]
  exact bj_P_u h
/-- reading at an index that is written in ints -/
theorem bj_rd_at {a : Nat → Int32} {k : Nat} {i : Int32} (hi : i = nI k) (hk : k < 2147483648) : a i.toNatClampNeg = a k := by
  rw [hi, nI_clamp hk]
/-! the parts of an index -/
theorem bj_q1 {y x : Nat} (h : x < 16) : (16 * y + x) % 16 = x := by omega
theorem bj_q2 {y x : Nat} (h : x < 16) : (16 * y + x) / 16 = y := by omega
theorem bj_q3 {b u v : Nat} (hu : u < 8) (hv : v < 8) : (64 * b + 8 * u + v) / 64 = b := by omega
theorem bj_q4 {b u v : Nat} (hu : u < 8) (hv : v < 8) : (64 * b + 8 * u + v) / 8 % 8 = u := by omega
theorem bj_q5 {b u v : Nat} (hu : u < 8) (hv : v < 8) : (64 * b + 8 * u + v) % 8 = v := by omega
/-! counts over the lost blocks -/
theorem bj_lost (M : Nat → Int32) (c : Nat → Prop) [DecidablePred c] : bj_s (fun n => if c (n / 64) then bj_i (M n) else 0) 256 = bj_s (fun o => if c o then bj_n M o else 0) 4 := by
  have e : bj_s (fun n => if c (n / 64) then bj_i (M n) else 0) 256 = bj_s (fun o => bj_s (fun k => if c ((64 * o + k) / 64) then bj_i (M (64 * o + k)) else 0) 64) 4 := bj_s_ml (fun n => if c (n / 64) then bj_i (M n) else 0) 64 4
  rw [e]
  refine bj_s_cg 4 (fun o _ => ?_)
  by_cases h : c o
  · rw [if_pos h]
    refine bj_s_cg 64 (fun k hk => ?_)
    rw [show (64 * o + k) / 64 = o from by omega, if_pos h]
  · rw [if_neg h]
    refine (bj_s_cg (g := fun _ => 0) 64 (fun k hk => ?_)).trans (bj_s_z 64)
    rw [show (64 * o + k) / 64 = o from by omega, if_neg h]
/-! the relation of the levels -/
def bj_Lr (L M : Nat → Int32) : Prop := ∀ b u v, b < 4 → u < 8 → v < 8 → L (64 * b + 8 * u + v) = M (64 * b + 8 * v + u)
def bj_Mb (M : Nat → Int32) : Prop := ∀ n, (M n).toInt.natAbs ≤ 65536
def bj_Ww (w : Nat → Int32) : Prop := ∀ u i, u < 8 → i < 8 → w (8 * u + i) = bj_K u i
theorem bj_sh_x {L M : Nat → Int32} {q x y : Nat} (hL : bj_Lr L M) (hM : bj_Mb M) (hq : q ≤ 8) (hx : x < 16) (hy : y < 16) :
    bj_cl (128 + (bj_z (bj_TX L q (2 * (y / 8) + x / 8) (x % 8) (y % 8))).toInt32) = bj_sh M q x y := by
  rw [bj_TX_T q (2 * (y / 8) + x / 8) (x % 8) (y % 8) (fun u v hu hv => hL _ u v (by omega) hu hv)]
  exact bj_xy (bj_BT hM hq _ _ _)
/-! what store and lose make of the levels -/
def bj_gX (p : Nat → Int32) (q : Nat) : Nat → Int32 := fun n => bj_lv p q (n / 64) (n / 8 % 8) (n % 8)
def bj_gY (p : Nat → Int32) (q : Nat) : Nat → Int32 := fun n => bj_lv p q (n / 64) (n % 8) (n / 8 % 8)
theorem bj_gXY (p : Nat → Int32) (q b : Nat) {u v : Nat} (hu : u < 8) (hv : v < 8) : bj_gX p q (64 * b + 8 * u + v) = bj_gY p q (64 * b + 8 * v + u) := by
  show bj_lv p q ((64 * b + 8 * u + v) / 64) ((64 * b + 8 * u + v) / 8 % 8) ((64 * b + 8 * u + v) % 8) = bj_lv p q ((64 * b + 8 * v + u) / 64) ((64 * b + 8 * v + u) % 8) ((64 * b + 8 * v + u) / 8 % 8)
  rw [bj_q3 hu hv, bj_q4 hu hv, bj_q5 hu hv, bj_q3 hv hu, bj_q4 hv hu, bj_q5 hv hu]
theorem bj_st_L (p L M : Nat → Int32) (q : Nat) : bj_Lr (bj_P (bj_gX p q) L 256) (bj_P (bj_gY p q) M 256) := by
  intro b u v hb hu hv
  rw [bj_P_lt (by omega), bj_P_lt (by omega)]
  exact bj_gXY p q b hu hv
theorem bj_st_b (p : Nat → Int32) {M : Nat → Int32} {q : Nat} (h1 : 1 ≤ q) (hq : q ≤ 8) (hM : bj_Mb M) : bj_Mb (bj_P (bj_gY p q) M 256) := by
  intro n
  by_cases h : n < 256
  · rw [bj_P_lt h]
    exact bj_lv_b p _ h1 hq (Nat.mod_lt _ (by decide)) (Nat.mod_lt _ (by decide))
  · rw [bj_P_ge (by omega)]
    exact hM n
theorem bj_st_n (p : Nat → Int32) (q : Nat) : bj_s (fun b => bj_n (bj_gX p q) b) 4 = bj_n (bj_gY p q) 0 + bj_n (bj_gY p q) 1 + bj_n (bj_gY p q) 2 + bj_n (bj_gY p q) 3 := by
  show (((0 : Int32) + bj_n (bj_gX p q) 0) + bj_n (bj_gX p q) 1) + bj_n (bj_gX p q) 2 + bj_n (bj_gX p q) 3 = _
  rw [Int32.zero_add, bj_n_tr 0 (fun u v hu hv => bj_gXY p q 0 hu hv), bj_n_tr 1 (fun u v hu hv => bj_gXY p q 1 hu hv), bj_n_tr 2 (fun u v hu hv => bj_gXY p q 2 hu hv), bj_n_tr 3 (fun u v hu hv => bj_gXY p q 3 hu hv)]
/-- the levels behind lose: r the interval, b the block -/
def bj_lo (L : Nat → Int32) (r b : Nat) : Nat → Int32 := fun n => if n / 64 / r = b / r then 0 else L n
theorem bj_lo_L {L M : Nat → Int32} (r b : Nat) (h : bj_Lr L M) : bj_Lr (bj_P (bj_lo L r b) L 256) (bj_P (bj_lo M r b) M 256) := by
  intro c u v hc hu hv
  rw [bj_P_lt (by omega), bj_P_lt (by omega)]
  show (if (64 * c + 8 * u + v) / 64 / r = b / r then 0 else L (64 * c + 8 * u + v)) = if (64 * c + 8 * v + u) / 64 / r = b / r then 0 else M (64 * c + 8 * v + u)
  rw [bj_q3 hu hv, bj_q3 hv hu, h c u v hc hu hv]
theorem bj_lo_b {M : Nat → Int32} (r b : Nat) (hM : bj_Mb M) : bj_Mb (bj_P (bj_lo M r b) M 256) := by
  intro n
  by_cases h : n < 256
  · rw [bj_P_lt h]
    show (if n / 64 / r = b / r then (0 : Int32) else M n).toInt.natAbs ≤ 65536
    by_cases h2 : n / 64 / r = b / r
    · rw [if_pos h2]
      decide
    · rw [if_neg h2]
      exact hM n
  · rw [bj_P_ge (by omega)]
    exact hM n
theorem bj_lo_n {L M : Nat → Int32} (r b : Nat) (h : bj_Lr L M) : bj_s (fun o => if o / r = b / r then bj_n L o else 0) 4 = bj_s (fun n => if n / 64 / r = b / r then bj_i (M n) else 0) 256 := by
  rw [bj_lost M (fun o => o / r = b / r)]
  refine bj_s_cg 4 (fun o ho => ?_)
  rw [bj_n_tr o (fun u v hu hv => h o u v ho hu hv)]
end
section
/-! ranges of arguments, and the methods without loops -/
section
variable {nq ni sq si : Int32} {p w L M : Nat → Int32}
theorem bj_rg (x : Int32) (n : Nat) (hn : n < 2147483648) (h0 : 0 < n) : x < 0 ∨ (¬ x < 0 ∧ nI n ≤ x ∧ nI (n - 1) < x) ∨ ∃ j : Nat, j < n ∧ x = nI j := by
  rcases pk_ix x hn with h | h | h
  · exact Or.inl h
  · exact Or.inr (Or.inl ⟨Int32.not_lt.mpr (Int32.le_trans (nI_pos' hn) h), h, Int32.lt_of_lt_of_le (nI_lt (by omega) hn) h⟩)
  · exact Or.inr (Or.inr h)
theorem bj_px (x y : Int32) : (∃ a b : Nat, a < 16 ∧ b < 16 ∧ x = nI a ∧ y = nI b) ∨ ((∀ post : Int32 → Prop, post 0 → wpX_isPixel post x y) ∧ (∀ (nq ni sq si : Int32) (p M : Nat → Int32) (post : Int32 → Prop), post 0 → wpY_isPixel post (nq, ni, sq, si, p, M) x y)) := by
  rcases bj_rg x 16 (by decide) (by decide) with h | ⟨h0, h1, h2⟩ | ⟨a, ha, rfl⟩
  · exact Or.inr ⟨fun post k => br_t h k, fun _ _ _ _ _ _ post k => br_t h k⟩
  · exact Or.inr ⟨fun post k => br_f h0 (br_t h1 k), fun _ _ _ _ _ _ post k => br_f h0 (br_t h2 k)⟩
  · have a0 : ¬ nI a < 0 := nI_pos (by omega)
    have a1 : ¬ (16 : Int32) ≤ nI a := nI_ge (b := 16) ha (by decide)
    have a2 : ¬ (15 : Int32) < nI a := nI_nlt (a := 15) (by omega) (by decide)
    rcases bj_rg y 16 (by decide) (by decide) with h | ⟨h0, h1, h2⟩ | ⟨b, hb, rfl⟩
    · exact Or.inr ⟨fun post k => br_f a0 (br_f a1 (br_t h k)), fun _ _ _ _ _ _ post k => br_f a0 (br_f a2 (br_t h k))⟩
    · exact Or.inr ⟨fun post k => br_f a0 (br_f a1 (br_f h0 (br_t h1 k))), fun _ _ _ _ _ _ post k => br_f a0 (br_f a2 (br_f h0 (br_t h2 k)))⟩
    · exact Or.inl ⟨a, b, ha, hb, rfl, rfl⟩
theorem bx_px {a b : Nat} (ha : a < 16) (hb : b < 16) {post : Int32 → Prop} (k : post 1) : wpX_isPixel post (nI a) (nI b) :=
  br_f (nI_pos (by omega)) (br_f (nI_ge (b := 16) ha (by decide)) (br_f (nI_pos (by omega)) (br_f (nI_ge (b := 16) hb (by decide)) k)))
theorem by_px {a b : Nat} (ha : a < 16) (hb : b < 16) {post : Int32 → Prop} (k : post 1) : wpY_isPixel post (nq, ni, sq, si, p, M) (nI a) (nI b) :=
  br_f (nI_pos (by omega)) (br_f (nI_nlt (a := 15) (by omega) (by decide)) (br_f (nI_pos (by omega)) (br_f (nI_nlt (a := 15) (by omega) (by decide)) k)))
theorem bj_gy (x : Int32) : (∀ post : Int32 → Prop, post 1 → wpX_isGrey post x) ∧ (∀ (nq ni sq si : Int32) (p M : Nat → Int32) (post : Int32 → Prop), post 1 → wpY_isGrey post (nq, ni, sq, si, p, M) x) ∨ ((∀ post : Int32 → Prop, post 0 → wpX_isGrey post x) ∧ (∀ (nq ni sq si : Int32) (p M : Nat → Int32) (post : Int32 → Prop), post 0 → wpY_isGrey post (nq, ni, sq, si, p, M) x)) := by
  by_cases h : x < 0
  · exact Or.inr ⟨fun post k => br_t h k, fun _ _ _ _ _ _ post k => br_t h k⟩
  · by_cases h2 : 255 < x
    · exact Or.inr ⟨fun post k => br_f h (br_t h2 k), fun _ _ _ _ _ _ post k => br_f h (br_t h2 k)⟩
    · exact Or.inl ⟨fun post k => br_f h (br_f h2 k), fun _ _ _ _ _ _ post k => br_f h (br_f h2 k)⟩
theorem bj_1 : ¬ (1 : Int32) = 0 := by decide
theorem bx_bk {b : Nat} (hb : b < 4) {post : Int32 → Prop} (k : post 1) : wpX_isBlock post (nI b) :=
  br_f (nI_pos (by omega)) (br_f (nI_ge (b := 4) hb (by decide)) k)
theorem bj_bl (x : Int32) : (∃ b : Nat, b < 4 ∧ x = nI b) ∨ ((∀ post : Int32 → Prop, post 0 → wpX_isBlock post x) ∧ ((x < 0) ∨ (¬ x < 0 ∧ 3 < x))) := by
  rcases bj_rg x 4 (by decide) (by decide) with h | ⟨h0, h1, h2⟩ | ⟨b, hb, rfl⟩
  · exact Or.inr ⟨fun post k => br_t h k, Or.inl h⟩
  · exact Or.inr ⟨fun post k => br_f h0 (br_t h1 k), Or.inr ⟨h0, h2⟩⟩
  · exact Or.inl ⟨b, hb, rfl⟩
theorem bx_ng {g : Int32} {post : Int32 → Prop} (k : post (bj_cl g)) : wpX_nearestGrey post g := by
  unfold bj_cl at k
  by_cases h1 : g < 0
  · rw [if_pos h1] at k
    exact br_f (Int32.not_le.mpr h1) k
  · rw [if_neg h1] at k
    by_cases h2 : 255 < g
    · rw [if_pos h2] at k
      exact br_t (Int32.not_lt.mp h1) (br_f (Int32.not_le.mpr h2) k)
    · rw [if_neg h2] at k
      exact br_t (Int32.not_lt.mp h1) (br_t (Int32.not_lt.mp h2) k)
theorem by_ng {g : Int32} {post : Int32 → Prop} (k : post (bj_cl g)) : wpY_clipped post (nq, ni, sq, si, p, M) g := by
  unfold bj_cl at k
  by_cases h1 : g < 0
  · rw [if_pos h1] at k
    exact br_f (Int32.not_le.mpr h1) k
  · rw [if_neg h1] at k
    by_cases h2 : 255 < g
    · rw [if_pos h2] at k
      exact br_t (Int32.not_lt.mp h1) (br_f (Int32.not_le.mpr h2) k)
    · rw [if_neg h2] at k
      exact br_t (Int32.not_lt.mp h1) (br_t (Int32.not_lt.mp h2) k)
/-! the waves -/
theorem bj_ch {post : Int32 → Prop} {t : Nat} (c : Nat) {li x y : Int32} {B : Prop} (hl : li = nI c) (ht : t < 2147483648) (hc : c < 2147483648) (k : post (if t = c then x else y)) (f : post y → B) : (nI t = li → post x) ∧ (¬ nI t = li → B) := by
  subst hl
  rw [nI_eq ht hc]
  exact ⟨fun h => (by rw [if_pos h] at k; exact k), fun h => f (by rw [if_neg h] at k; exact k)⟩
theorem by_wv {t : Nat} (ht : t ≤ 8) {post : Int32 → Prop} (k : post (bj_c t)) : wpY_wave post (nq, ni, sq, si, p, M) (nI t) := by
  have hb : t < 2147483648 := by omega
  exact bj_ch 0 rfl hb (by decide) k fun k => bj_ch 1 rfl hb (by decide) k fun k => bj_ch 2 rfl hb (by decide) k fun k => bj_ch 3 rfl hb (by decide) k fun k => bj_ch 4 rfl hb (by decide) k fun k => bj_ch 5 rfl hb (by decide) k fun k => bj_ch 6 rfl hb (by decide) k fun k => bj_ch 7 rfl hb (by decide) k fun k => k
theorem bx_wv {t : Nat} (ht : t ≤ 8) {post : Int32 → Prop} (k : post (bj_c t)) : wpX_quarterWave post (nI t) := by
  have hb : t < 2147483648 := by omega
  refine br_f (nI_pos hb) (pk_lt 7 t (fun h => ?_) (fun _ => ?_))
  · obtain rfl : t = 8 := by omega
    exact k
  · exact bj_ch 0 rfl hb (by decide) k fun k => bj_ch 1 rfl hb (by decide) k fun k => bj_ch 2 rfl hb (by decide) k fun k => bj_ch 3 rfl hb (by decide) k fun k => bj_ch 4 rfl hb (by decide) k fun k => bj_ch 5 rfl hb (by decide) k fun k => bj_ch 6 rfl hb (by decide) k fun k => bj_ch 7 rfl hb (by decide) k fun _ => trivial
theorem bj_Cw {Wv : (Int32 → Prop) → Int32 → Prop} (hW : ∀ (post : Int32 → Prop) (t : Nat), t ≤ 8 → post (bj_c t) → Wv post (nI t)) {post : Int32 → Prop} {t : Nat} (ht : t < 32) (k : post (bj_C t)) :
    (8 < nI t → ((16 < nI t → ((24 < nI t → Wv (fun r => post r) (32 - nI t)) ∧ (¬ 24 < nI t → Wv (fun r => post (-r)) (nI t - 16)))) ∧ (¬ 16 < nI t → Wv (fun r => post (-r)) (16 - nI t)))) ∧ (¬ 8 < nI t → Wv (fun r => post r) (nI t)) := by
  unfold bj_C at k
  refine pk_lt 8 t (fun h8 => pk_lt 16 t (fun h16 => pk_lt 24 t (fun h24 => ?_) (fun h24 => ?_)) (fun h16 => ?_)) (fun h8 => ?_)
  · rw [if_neg (by omega), if_neg (by omega), if_neg (by omega)] at k
    rw [show (32 : Int32) - nI t = nI (32 - t) from pk_sub (a := 32) (by omega)]
    exact hW _ _ (by omega) k
  · rw [if_neg (by omega), if_neg (by omega), if_pos (by omega)] at k
    rw [show nI t - (16 : Int32) = nI (t - 16) from pk_sub (b := 16) (by omega)]
    exact hW _ _ (by omega) k
  · rw [if_neg (by omega), if_pos (by omega)] at k
    rw [show (16 : Int32) - nI t = nI (16 - t) from pk_sub (a := 16) (by omega)]
    exact hW _ _ (by omega) k
  · rw [if_pos (by omega)] at k
    exact hW _ _ (by omega) k
theorem bx_wa {t : Nat} (ht : t < 32) {post : Int32 → Prop} (k : post (bj_C t)) : wpX_waveAt post (nI t) :=
  bj_Cw (Wv := wpX_quarterWave) (fun _ _ h k => bx_wv h k) ht k
theorem by_k {u i : Nat} (hu : u < 8) (hi : i < 8) {post : Int32 → Prop} (k : post (bj_K u i)) : wpY_k post (nq, ni, sq, si, p, M) (nI u) (nI i) :=
  ⟨by decide, nm_r (bj_t_eq hu hi) (bj_Cw (Wv := fun post x => wpY_wave post (nq, ni, sq, si, p, M) x) (fun _ _ h k => by_wv h k) (Nat.mod_lt _ (by decide)) k)⟩
theorem bx_st {q u v : Nat} {post : Int32 → Prop} (k : post (nI (bj_D q u v))) : wpX_stepAt post (nq, ni, nI q, si, p, w, L) (nI u) (nI v) := by
  rw [← bj_D_eq] at k
  exact k
theorem by_st {q u v : Nat} {post : Int32 → Prop} (k : post (nI (bj_D q u v))) : wpY_step post (nq, ni, sq, si, p, M) (nI q) (nI u) (nI v) := by
  rw [← bj_D_eq] at k
  exact k
theorem bx_sf {u : Nat} (hu : u < 8) {post : Int32 → Prop} (k : post (bj_e u)) : wpX_shareOf post (nI u) :=
  bj_ch 0 rfl (by omega) (by decide) k fun k => k
theorem bx_rl {s d : Int32} (h : ¬ 2 * d = 0) {post : Int32 → Prop} (k : post (bj_rd s d)) : wpX_roundedLevel post s d := by
  unfold bj_rd bj_ab at k
  by_cases h1 : s < 0
  · rw [if_pos h1, if_pos h1] at k
    exact br_f (Int32.not_le.mpr h1) ⟨h, nm_e (br_f (Int32.not_le.mpr h1) k)⟩
  · rw [if_neg h1, if_neg h1] at k
    exact br_t (Int32.not_lt.mp h1) ⟨h, nm_e (br_t (Int32.not_lt.mp h1) k)⟩
theorem by_rl {s d : Int32} (h : ¬ 2 * d = 0) {post : Int32 → Prop} (k : post (bj_rd s d)) : (0 ≤ s → wY_levelOf_125 post s d s nq ni sq si p M) ∧ (¬ 0 ≤ s → wY_levelOf_125 post s d (-s) nq ni sq si p M) := by
  unfold bj_rd bj_ab at k
  by_cases h1 : s < 0
  · rw [if_pos h1, if_pos h1] at k
    exact br_f (Int32.not_le.mpr h1) ⟨h, nm_e (br_f (Int32.not_le.mpr h1) k)⟩
  · rw [if_neg h1, if_neg h1] at k
    exact br_t (Int32.not_lt.mp h1) ⟨h, nm_e (br_t (Int32.not_lt.mp h1) k)⟩
end
end
