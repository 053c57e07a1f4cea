section
theorem pk_us {f : Nat → Int32} {k : Nat} {x : Int32} : upd f k x k = x := if_pos rfl
theorem pk_un {f : Nat → Int32} {k j : Nat} {x : Int32} (h : j ≠ k) : upd f k x j = f j := if_neg h
theorem pk_sub {a b : Nat} (h : b ≤ a) : nI a - nI b = nI (a - b) := by
  obtain ⟨c, rfl⟩ : ∃ c, a = c + b := ⟨a - b, by omega⟩
  rw [← nI_add, Int32.add_sub_cancel, Nat.add_sub_cancel]
theorem pk_m1 (n : Nat) : nI (n + 1) + (-1) = nI n := by
  rw [← nI_1, Int32.add_assoc, show (1 : Int32) + (-1) = 0 from rfl, Int32.add_zero]
theorem pk_mul (a b : Nat) : nI a * nI b = nI (a * b) := (Int32.ofNat_mul a b).symm
theorem pk_le {x y : Int32} {A B : Prop} (a b : Nat) (f : a ≤ b → A) (g : b < a → B) (hx : x = nI a := by rfl) (hy : y = nI b := by rfl) (ha : a < 2 ^ 31 := by omega) (hb : b < 2 ^ 31 := by omega) : (x ≤ y → A) ∧ (¬ x ≤ y → B) := by
  subst hx hy
  rw [nI_leI ha hb]
  exact ⟨f, fun z => g (by omega)⟩
theorem pk_lt {x y : Int32} {A B : Prop} (a b : Nat) (f : a < b → A) (g : b ≤ a → B) (hx : x = nI a := by rfl) (hy : y = nI b := by rfl) (ha : a < 2 ^ 31 := by omega) (hb : b < 2 ^ 31 := by omega) : (x < y → A) ∧ (¬ x < y → B) := by
  subst hx hy
  rw [nI_ltI ha hb]
  exact ⟨f, fun z => g (by omega)⟩
theorem pk_eq {x y : Int32} {A B : Prop} (a b : Nat) (f : a = b → A) (g : a ≠ b → B) (hx : x = nI a := by rfl) (hy : y = nI b := by rfl) (ha : a < 2 ^ 31 := by omega) (hb : b < 2 ^ 31 := by omega) : (x = y → A) ∧ (¬ x = y → B) := by
  subst hx hy
  rw [nI_eq ha hb]
  exact ⟨f, g⟩
theorem pk_in {x : Int32} (n N : Nat) (h : n < N) (hx : x = nI n := by rfl) (hN : N < 2 ^ 31 := by omega) : vp_in x N := by
  subst hx
  exact vp_in_nI h hN
theorem pk_cl {x : Int32} (n : Nat) (hx : x = nI n := by rfl) (h : n < 2 ^ 31 := by omega) : x.toNatClampNeg = n := by
  subst hx
  exact nI_clamp h
theorem pk_tn {n : Nat} (h : n < 2 ^ 32) : (nI n).toBitVec.toNat = n := Nat.mod_eq_of_lt h
theorem wb_tb (n : Nat) : (lN n).toBitVec = BitVec.ofNat 64 n := rfl
theorem wb_inj {a b : Int64} (h : a.toBitVec = b.toBitVec) : a = b := Int64.toBitVec_inj.mp h
theorem wb_tn {n : Nat} (h : n < 2 ^ 64) : (lN n).toBitVec.toNat = n := by rw [wb_tb, BitVec.toNat_ofNat, Nat.mod_eq_of_lt h]
theorem wb_of (x : Int64) : ∃ n, n < 2 ^ 64 ∧ x = lN n := ⟨x.toBitVec.toNat, x.toBitVec.isLt, wb_inj (by rw [wb_tb]; simp)⟩
theorem wb_of32 (x : Int32) : ∃ n, n < 2 ^ 32 ∧ x = nI n := ⟨x.toBitVec.toNat, x.toBitVec.isLt, Int32.toBitVec_inj.mp (by show _ = BitVec.ofNat 32 _; simp)⟩
theorem wb_c : ∀ k, k < 64 → ((nI k).toInt64 &&& 63) = lN k := by decide +kernel
theorem wb_cu : ∀ k, k < 64 → ((nI k).toInt64.toUInt64 &&& Int64.toUInt64 63) = UInt64.ofNat k := by decide +kernel
theorem wb_sm : ∀ k, k < 64 → (BitVec.ofNat 64 k).smod 64 = BitVec.ofNat 64 k := by decide +kernel
theorem wb_pw {a b : Nat} (h : a ≤ b) : 2 ^ b = 2 ^ a * 2 ^ (b - a) := by rw [← Nat.pow_add]; congr 1; omega
theorem wb_lt2 {a b : Nat} (h : a < b) : 2 ^ a < 2 ^ b := Nat.pow_lt_pow_right (by decide) h
theorem wb_mod (n : Nat) : lN n = lN (n % 2 ^ 64) := wb_inj (by rw [wb_tb, wb_tb]; apply BitVec.eq_of_toNat_eq; rw [BitVec.toNat_ofNat, BitVec.toNat_ofNat, Nat.mod_mod])
theorem wb_shr {n k : Nat} (hn : n < 2 ^ 64) (hk : k < 64) : ((lN n).toUInt64 >>> ((nI k).toInt64.toUInt64 &&& Int64.toUInt64 63)).toInt64 = lN (n / 2 ^ k) := by
  rw [wb_cu k hk]
  apply wb_inj
  apply BitVec.eq_of_toNat_eq
  show ((lN n).toUInt64 >>> UInt64.ofNat k).toNat = (BitVec.ofNat 64 _).toNat
  have h1 : (UInt64.ofNat k).toNat = k := by
    show (BitVec.ofNat 64 k).toNat = k
    rw [BitVec.toNat_ofNat, Nat.mod_eq_of_lt (by omega)]
  have h2 : (lN n).toUInt64.toNat = n := wb_tn hn
  rw [UInt64.toNat_shiftRight, h1, h2, Nat.mod_eq_of_lt hk, Nat.shiftRight_eq_div_pow, BitVec.toNat_ofNat, Nat.mod_eq_of_lt (Nat.lt_of_le_of_lt (Nat.div_le_self _ _) hn)]
theorem wb_shl (n : Nat) {k : Nat} (hk : k < 64) : lN n <<< ((nI k).toInt64 &&& 63) = lN (n * 2 ^ k) := by
  rw [wb_c k hk]
  apply wb_inj
  rw [Int64.toBitVec_shiftLeft, wb_tb, wb_tb, wb_tb, wb_sm k hk]
  apply BitVec.eq_of_toNat_eq
  rw [BitVec.shiftLeft_eq', BitVec.toNat_shiftLeft, BitVec.toNat_ofNat, BitVec.toNat_ofNat, BitVec.toNat_ofNat, Nat.mod_eq_of_lt (show k < 2 ^ 64 by omega), Nat.shiftLeft_eq, Nat.mul_mod, Nat.mod_mod, ← Nat.mul_mod]
theorem wb_and {a b : Nat} (ha : a < 2 ^ 64) (hb : b < 2 ^ 64) : lN a &&& lN b = lN (a &&& b) := by
  apply wb_inj
  rw [Int64.toBitVec_and, wb_tb, wb_tb, wb_tb]
  apply BitVec.eq_of_toNat_eq
  rw [BitVec.toNat_and, BitVec.toNat_ofNat, BitVec.toNat_ofNat, BitVec.toNat_ofNat, Nat.mod_eq_of_lt ha, Nat.mod_eq_of_lt hb, Nat.mod_eq_of_lt (Nat.and_lt_two_pow _ hb)]
theorem wb_or {a b : Nat} (ha : a < 2 ^ 64) (hb : b < 2 ^ 64) : lN a ||| lN b = lN (a ||| b) := by
  apply wb_inj
  rw [Int64.toBitVec_or, wb_tb, wb_tb, wb_tb]
  apply BitVec.eq_of_toNat_eq
  rw [BitVec.toNat_or, BitVec.toNat_ofNat, BitVec.toNat_ofNat, BitVec.toNat_ofNat, Nat.mod_eq_of_lt ha, Nat.mod_eq_of_lt hb, Nat.mod_eq_of_lt (Nat.or_lt_two_pow ha hb)]
theorem wb_mask {n k : Nat} (hn : n < 2 ^ 64) (hk : k < 64) : lN n &&& lN (2 ^ k - 1) = lN (n % 2 ^ k) := by
  rw [wb_and hn (by have := wb_lt2 hk; omega), Nat.and_two_pow_sub_one_eq_mod]
theorem u_tn {n : Nat} (h : n < 2 ^ 64) : (UInt64.ofNat n).toNat = n := Nat.mod_eq_of_lt h
theorem g_or {k p a b : Nat} (hp : 2 ^ k = p) (ha : a < p) (h : b * p + a < 2 ^ 64) : lN (b * p) ||| lN a = lN (b * p + a) := by
  subst hp
  have h1 : b * 2 ^ k ||| a = b * 2 ^ k + a := by rw [← Nat.shiftLeft_eq, Nat.shiftLeft_add_eq_or_of_lt ha]
  have h3 : UInt64.ofNat (b * 2 ^ k) ||| UInt64.ofNat a = UInt64.ofNat (b * 2 ^ k + a) := UInt64.toNat_inj.mp (by rw [UInt64.toNat_or, u_tn (by omega), u_tn (by omega), u_tn h, h1])
  have h2 := congrArg UInt64.toInt64 h3
  exact h2
end
section
/-! ===== groups of seven bits of a natural number below 2^64 ===== -/
theorem sv_div {m k : Nat} (h : m < 2 ^ 64) : m / 2 ^ k < 2 ^ 64 := Nat.lt_of_le_of_lt (Nat.div_le_self _ _) h
theorem sv_z {m : Nat} (h : m < 2 ^ 64) : lN m = 0 ↔ m = 0 := by
  constructor
  · intro e
    have h2 := wb_tn h
    rw [e] at h2
    exact h2.symm
  · intro e; subst e; rfl
theorem sv_low {m : Nat} (h : m < 2 ^ 64) : (lN m &&& 127).toInt32 = nI (m % 128) := by
  have e : lN m &&& 127 = lN (m % 128) := wb_mask (k := 7) h (by decide)
  rw [e, lN_i]
theorem sv_low8 {m : Nat} (h : m < 2 ^ 64) : (lN m &&& 255).toInt32 = nI (m % 256) := by
  have e : lN m &&& 255 = lN (m % 256) := wb_mask (k := 8) h (by decide)
  rw [e, lN_i]
theorem sv_shr7 {m : Nat} (h : m < 2 ^ 64) : ((lN m).toUInt64 >>> ((7 : Int32).toInt64.toUInt64 &&& Int64.toUInt64 63)).toInt64 = lN (m / 128) := wb_shr (k := 7) h (by decide)
theorem sv_shr8 {m : Nat} (h : m < 2 ^ 64) : ((lN m).toUInt64 >>> ((8 : Int32).toInt64.toUInt64 &&& Int64.toUInt64 63)).toInt64 = lN (m / 256) := wb_shr (k := 8) h (by decide)
theorem sv_shr56 {m : Nat} (h : m < 2 ^ 64) : ((lN m).toUInt64 >>> ((56 : Int32).toInt64.toUInt64 &&& Int64.toUInt64 63)).toInt64 = lN (m / 2 ^ 56) := wb_shr (k := 56) h (by decide)
theorem sv_or : ∀ g, g < 128 → (128 : Int32) ||| nI g = nI (128 + g) ∧ nI g ||| (128 : Int32) = nI (128 + g) := by decide +kernel
theorem sv_and : ∀ g, g < 256 → nI g &&& (127 : Int32) = nI (g % 128) := by decide +kernel
theorem sv_mul : ∀ n, n < 16 → (7 : Int32) * nI n = nI (7 * n) := by decide +kernel
theorem sv_57 : ∀ i, i < 8 → (57 : Int32) - 7 * nI i = nI (57 - 7 * i) := by decide +kernel
theorem sv_lm : ∀ n, n < 10 → ∀ i, i < n → (7 : Int32) * (nI n - 1 - nI i) = nI (7 * (n - 1 - i)) := by decide +kernel
theorem sv_m1 : ∀ n, n < 10 → 0 < n → nI n - 1 = nI (n - 1) := by decide +kernel
theorem sv_m2 : ∀ n, n < 10 → 0 < n → nI n - 2 = nI (n - 1) + (-1) := by decide +kernel
theorem sv_neg : ∀ t, t < 10 → (nI t + (-1) < 0 ↔ t = 0) := by decide +kernel
theorem sv_pos : ∀ t, t < 10 → (0 ≤ nI t + (-1) ↔ ¬ t = 0) := by decide +kernel
/-- seven bits more -/
theorem sv_dd (m k : Nat) : m / 128 / 2 ^ (7 * k) = m / 2 ^ (7 * (k + 1)) := by
  rw [Nat.div_div_eq_div_mul, show (128 : Nat) = 2 ^ 7 from rfl, ← Nat.pow_add]
  congr 2; omega
theorem sv_dd' (m k : Nat) : m / 2 ^ (7 * (k + 1)) = m / 2 ^ (7 * k) / 128 := by
  rw [Nat.div_div_eq_div_mul, show (128 : Nat) = 2 ^ 7 from rfl, ← Nat.pow_add]
  congr 2
theorem sv_d8 (m k : Nat) : m / 256 / 2 ^ (7 * k) = m / 2 ^ (8 + 7 * k) := by
  rw [Nat.div_div_eq_div_mul, show (256 : Nat) = 2 ^ 8 from rfl, ← Nat.pow_add]
/-- the array after t groups have been written down to cell 0, the lowest of m in cell t - 1 -/
def sv_fill (m t : Nat) (a : Nat → Int32) : Nat → Int32 := fun j => if j < t then nI (128 + m / 2 ^ (7 * (t - 1 - j)) % 128) else a j
theorem sv_fill_0 (m : Nat) (a : Nat → Int32) : sv_fill m 0 a = a := by
  funext j
  exact if_neg (Nat.not_lt_zero j)
theorem sv_fill_lt {m t j : Nat} {a : Nat → Int32} (h : j < t) : sv_fill m t a j = nI (128 + m / 2 ^ (7 * (t - 1 - j)) % 128) := if_pos h
theorem sv_fill_s (m t : Nat) (a : Nat → Int32) : sv_fill (m / 128) t (upd a t (nI (128 + m % 128))) = sv_fill m (t + 1) a := by
  funext j
  rcases Nat.lt_trichotomy j t with h | h | h
  · rw [sv_fill_lt h, sv_fill_lt (show j < t + 1 by omega), sv_dd, show t - 1 - j + 1 = t + 1 - 1 - j by omega]
  · subst h
    rw [sv_fill_lt (show j < j + 1 by omega)]
    unfold sv_fill
    rw [if_neg (Nat.lt_irrefl j), pk_us, show j + 1 - 1 - j = 0 by omega, Nat.mul_zero, Nat.pow_zero, Nat.div_one]
  · unfold sv_fill
    rw [if_neg (show ¬ j < t by omega), if_neg (show ¬ j < t + 1 by omega), pk_un (show j ≠ t by omega)]
/-- the count of groups: the least n from 1 on with nothing beyond it, or K -/
def sv_cnt (w K n : Nat) : Prop := 1 ≤ n ∧ n ≤ K ∧ (n = K ∨ w / 2 ^ (7 * n) = 0) ∧ ∀ j, 1 ≤ j → j < n → ¬ w / 2 ^ (7 * j) = 0
theorem sv_cnt_up (w : Nat) : ∀ d i, 1 ≤ i → (∀ j, 1 ≤ j → j < i → ¬ w / 2 ^ (7 * j) = 0) → ∃ n, i ≤ n ∧ sv_cnt w (i + d) n := by
  intro d
  induction d with
  | zero => exact fun i h1 h => ⟨i, Nat.le_refl i, h1, Nat.le_refl i, Or.inl rfl, h⟩
  | succ d ih =>
    intro i h1 h
    by_cases z : w / 2 ^ (7 * i) = 0
    · exact ⟨i, Nat.le_refl i, h1, by omega, Or.inr z, h⟩
    · obtain ⟨n, hn, hc⟩ := ih (i + 1) (by omega) (by
        intro j hj hj2
        by_cases e : j = i
        · subst e; exact z
        · exact h j hj (by omega))
      rw [show i + 1 + d = i + (d + 1) by omega] at hc
      exact ⟨n, by omega, hc⟩
theorem sv_cnt_ex (w : Nat) : ∃ n, sv_cnt w 9 n := by
  obtain ⟨n, _, h⟩ := sv_cnt_up w 8 1 (Nat.le_refl 1) (fun j h1 h2 => absurd h2 (by omega))
  exact ⟨n, h⟩
theorem sv_div0 {w k : Nat} : w / 2 ^ k = 0 ↔ w < 2 ^ k := by
  rw [Nat.div_eq_zero_iff]
  have := Nat.two_pow_pos k
  omega
theorem sv_cnt_8 {w n : Nat} (h : sv_cnt w 9 n) (hw : w / 2 ^ 56 = 0) : n ≤ 8 ∧ w < 2 ^ (7 * n) ∧ sv_cnt w 8 n := by
  obtain ⟨h1, h9, he, hj⟩ := h
  have hn : n ≤ 8 := by
    rcases Nat.lt_or_ge 8 n with z | z
    · exact absurd hw (hj 8 (by omega) z)
    · exact z
  have h0 : w / 2 ^ (7 * n) = 0 := by
    rcases he with e | e
    · omega
    · exact e
  exact ⟨hn, sv_div0.mp h0, h1, hn, Or.inr h0, hj⟩
theorem sv_cnt_9 {w n : Nat} (h : sv_cnt w 9 n) (hw : ¬ w / 2 ^ 56 = 0) : n = 9 := by
  obtain ⟨h1, h9, he, hj⟩ := h
  rcases he with e | e
  · exact e
  · by_cases z : n = 9
    · exact z
    · refine absurd (sv_div0.mpr (Nat.lt_of_lt_of_le (sv_div0.mp e) ?_)) hw
      exact Nat.pow_le_pow_right (by decide) (by omega)
/-- the byte j of the encoding of w in n bytes -/
def sv_byte (w n j : Nat) : Nat := if n = 9 then (if j = 8 then w % 256 else 128 + w / 2 ^ (57 - 7 * j) % 128) else if j = n - 1 then w % 128 else 128 + w / 2 ^ (7 * (n - 1 - j)) % 128
theorem sv_byte_lt (w n j : Nat) : sv_byte w n j < 256 := by
  unfold sv_byte
  have h1 := Nat.mod_lt w (show 0 < 256 by decide)
  have h2 := Nat.mod_lt (w / 2 ^ (57 - 7 * j)) (show 0 < 128 by decide)
  have h3 := Nat.mod_lt w (show 0 < 128 by decide)
  have h4 := Nat.mod_lt (w / 2 ^ (7 * (n - 1 - j))) (show 0 < 128 by decide)
  split
  · split <;> omega
  · split <;> omega
theorem sv_byte_9 (w : Nat) (a : Nat → Int32) : ∀ j, j < 9 → upd (sv_fill (w / 256) 8 a) 8 (nI (w % 256)) j = nI (sv_byte w 9 j) := by
  intro j hj
  unfold sv_byte
  rw [if_pos rfl]
  by_cases e : j = 8
  · subst e; rw [pk_us, if_pos rfl]
  · rw [pk_un e, if_neg e, sv_fill_lt (show j < 8 by omega), sv_d8, show 8 + 7 * (8 - 1 - j) = 57 - 7 * j by omega]
theorem sv_byte_n (w n : Nat) (a : Nat → Int32) (h1 : 1 ≤ n) (h8 : n ≤ 8) : ∀ j, j < n → upd (sv_fill (w / 128) (n - 1) a) (n - 1) (nI (w % 128)) j = nI (sv_byte w n j) := by
  intro j hj
  unfold sv_byte
  rw [if_neg (show ¬ n = 9 by omega)]
  by_cases e : j = n - 1
  · rw [if_pos e, e, pk_us]
  · rw [if_neg e, pk_un e, sv_fill_lt (show j < n - 1 by omega), sv_dd, show n - 1 - 1 - j + 1 = n - 1 - j by omega]
/-- the groups of the first eight bytes, and of n bytes, as joinGroups reads them -/
theorem sv_grp_9 (w j : Nat) (h : j < 8) : nI (sv_byte w 9 j) &&& 127 = nI (w / 256 / 2 ^ (7 * (8 - 1 - j)) % 128) := by
  rw [sv_and _ (sv_byte_lt w 9 j)]
  unfold sv_byte
  rw [if_pos rfl, if_neg (show ¬ j = 8 by omega), sv_d8, show 8 + 7 * (8 - 1 - j) = 57 - 7 * j by omega, Nat.add_mod_left, Nat.mod_mod]
theorem sv_grp_n (w n j : Nat) (h8 : n ≤ 8) (h : j < n) : nI (sv_byte w n j) &&& 127 = nI (w / 2 ^ (7 * (n - 1 - j)) % 128) := by
  rw [sv_and _ (sv_byte_lt w n j)]
  unfold sv_byte
  rw [if_neg (show ¬ n = 9 by omega)]
  by_cases e : j = n - 1
  · rw [if_pos e, show n - 1 - j = 0 by omega, Nat.mul_zero, Nat.pow_zero, Nat.div_one, Nat.mod_mod]
  · rw [if_neg e, Nat.add_mod_left, Nat.mod_mod]
/-- one step of joinGroups -/
theorem sv_join {m : Nat} (d : Nat) (h : m < 2 ^ 64) : (lN (m / 2 ^ (7 * (d + 1))) <<< ((7 : Int32).toInt64 &&& 63)) ||| (nI (m / 2 ^ (7 * d) % 128)).toInt64 = lN (m / 2 ^ (7 * d)) := by
  have hm : m / 2 ^ (7 * d) < 2 ^ 64 := sv_div h
  rw [sv_dd']
  generalize m / 2 ^ (7 * d) = q at hm
  have hq := Nat.div_add_mod' q 128
  have hr := Nat.mod_lt q (show 0 < 128 by decide)
  have e : lN (q / 128) <<< ((7 : Int32).toInt64 &&& 63) = lN (q / 128 * 128) := wb_shl (q / 128) (k := 7) (by decide)
  rw [e, nI_l (by omega), g_or (k := 7) (p := 128) rfl hr (by omega), hq]
theorem sv_join8 {w : Nat} (h : w < 2 ^ 64) : (lN (w / 256) <<< ((8 : Int32).toInt64 &&& 63)) ||| (nI (w % 256)).toInt64 = lN w := by
  have hq := Nat.div_add_mod' w 256
  have hr := Nat.mod_lt w (show 0 < 256 by decide)
  have e : lN (w / 256) <<< ((8 : Int32).toInt64 &&& 63) = lN (w / 256 * 256) := wb_shl (w / 256) (k := 8) (by decide)
  rw [e, nI_l (by omega), g_or (k := 8) (p := 256) rfl hr (by omega), hq]
end
section
/-! ===== the loops of both sides, each against the pure picture ===== -/
theorem sv_gc {w n : Nat} (hw : w < 2 ^ 64) (hc : sv_cnt w 8 n) (post : Int32 → Prop) (hp : post (nI n)) : ∀ d i, 1 ≤ i → i + d = n → wX_groupCount_2 post (lN w) (d + 1) (nI i) := by
  obtain ⟨h1, hK, he, hj⟩ := hc
  intro d
  induction d with
  | zero =>
    intro i hi e
    have e' : i = n := by omega
    subst e'
    refine pk_le 8 i (fun _ => hp) (fun hlt => br_t ?_ hp)
    rw [sv_mul i (by omega), wb_shr hw (by omega)]
    rcases he with e | e
    · omega
    · exact (sv_z (sv_div hw)).mpr e
  | succ d ih =>
    intro i hi e
    refine pk_le 8 i (fun z => absurd z (by omega)) (fun hlt => br_f ?_ (nm_r (nI_1 i) (ih (i + 1) (by omega) (by omega))))
    rw [sv_mul i (by omega), wb_shr hw (by omega), sv_z (sv_div hw)]
    exact hj i hi (by omega)
theorem sv_yc {w n : Nat} (hw : w < 2 ^ 64) (hc : sv_cnt w 9 n) (post : Int32 → SY → Prop) (fv : Int64) (fl : Int32) (hp : post (nI n) (fv, nI n)) : ∀ d i, 1 ≤ i → i + d = n → wY_put_10 post (lN w) fv fl (d + 1) (nI i) := by
  obtain ⟨h1, hK, he, hj⟩ := hc
  intro d
  induction d with
  | zero =>
    intro i hi e
    have e' : i = n := by omega
    subst e'
    refine pk_le 9 i (fun _ => hp) (fun hlt => br_t ?_ hp)
    rw [sv_mul i (by omega), wb_shr hw (by omega)]
    rcases he with e | e
    · omega
    · exact (sv_z (sv_div hw)).mpr e
  | succ d ih =>
    intro i hi e
    refine pk_le 9 i (fun z => absurd z (by omega)) (fun hlt => br_f ?_ (nm_r (nI_1 i) (ih (i + 1) (by omega) (by omega))))
    rw [sv_mul i (by omega), wb_shr hw (by omega), sv_z (sv_div hw)]
    exact hj i hi (by omega)
/-- a written group -/
theorem sv_put (a : Nat → Int32) {m t : Nat} (hm : m < 2 ^ 64) (ht : t < 9) : upd a (nI t).toNatClampNeg (128 ||| (lN m &&& 127).toInt32) = upd a t (nI (128 + m % 128)) := by
  rw [nI_clamp (by omega), sv_low hm, (sv_or _ (Nat.mod_lt _ (by decide))).1]
theorem sv_s9 {w : Nat} (hw : w < 2 ^ 64) (post : SX → Prop) (fl : Int32) : ∀ t m a, t ≤ 8 → m < 2 ^ 64 → post (9, upd (sv_fill m t a) 8 (nI (w % 256))) → wX_storeNineBytes_9 post (lN w) fl (t + 1) (lN m) (nI t + (-1)) a := by
  intro t
  induction t with
  | zero =>
    intro m a ht hm hp
    refine br_t ((sv_neg 0 (by decide)).mpr rfl) (nm_r ?_ hp)
    rw [sv_low8 hw, sv_fill_0]
  | succ t ih =>
    intro m a ht hm hp
    rw [pk_m1]
    refine br_f (nI_pos (by omega)) (And.intro (vp_in_nI (by omega) (by omega)) (nm_r (sv_put a hm (by omega)) (nm_r (sv_shr7 hm) (nm_e (ih (m / 128) _ (by omega) (by omega) ?_)))))
    rw [sv_fill_s]
    exact hp
theorem sv_sG {w n : Nat} (hw : w < 2 ^ 64) (h1 : 1 ≤ n) (h8 : n ≤ 8) (post : SX → Prop) (fl : Int32) : ∀ t m a, t ≤ 8 → m < 2 ^ 64 → post (nI n, upd (sv_fill m t a) (n - 1) (nI (w % 128))) → wX_storeGroups_16 post (lN w) (nI n) fl (t + 1) (lN m) (nI t + (-1)) a := by
  intro t
  induction t with
  | zero =>
    intro m a ht hm hp
    refine br_t ((sv_neg 0 (by decide)).mpr rfl) (And.intro ?_ (nm_r ?_ hp))
    · rw [sv_m1 n (by omega) (by omega)]
      exact vp_in_nI (by omega) (by omega)
    · rw [sv_m1 n (by omega) (by omega), nI_clamp (by omega), sv_low hw, sv_fill_0]
  | succ t ih =>
    intro m a ht hm hp
    rw [pk_m1]
    refine br_f (nI_pos (by omega)) (And.intro (vp_in_nI (by omega) (by omega)) (nm_r (sv_put a hm (by omega)) (nm_r (sv_shr7 hm) (nm_e (ih (m / 128) _ (by omega) (by omega) ?_)))))
    rw [sv_fill_s]
    exact hp
theorem sv_jg {m c : Nat} (hm : m < 2 ^ 64) (hc : c ≤ 8) (post : Int64 → Prop) (fl : Int32) (a : Nat → Int32) (ha : ∀ j, j < c → a j &&& 127 = nI (m / 2 ^ (7 * (c - 1 - j)) % 128)) (hp : post (lN m)) : ∀ d i, i + d = c → wX_joinGroups_5 post (nI c) fl a (d + 1) (lN (m / 2 ^ (7 * d))) (nI i) := by
  intro d
  induction d with
  | zero =>
    intro i e
    refine pk_le c i (fun _ => ?_) (fun z => absurd z (by omega))
    rw [Nat.mul_zero, Nat.pow_zero, Nat.div_one]
    exact hp
  | succ d ih =>
    intro i e
    refine pk_le c i (fun z => absurd z (by omega)) (fun _ => And.intro (vp_in_nI (by omega) (by omega)) (nm_r ?_ (nm_r (nI_1 i) (ih (i + 1) (by omega)))))
    rw [nI_clamp (by omega), ha i (by omega), show c - 1 - i = d by omega]
    exact sv_join d hm
/-! ===== the private methods, at a general post ===== -/
theorem sv_N9 {w : Nat} (hw : w < 2 ^ 64) (post : SX → Prop) (fl : Int32) (a : Nat → Int32) (hp : post (9, upd (sv_fill (w / 256) 8 a) 8 (nI (w % 256)))) : wpX_storeNineBytes post (fl, a) (lN w) := by
  unfold wpX_storeNineBytes
  dsimp only
  refine nm_r (sv_shr8 hw) ⟨9, ?_⟩
  have h := sv_s9 hw post fl 8 (w / 256) a (Nat.le_refl 8) (by omega) hp
  rw [show nI 8 + (-1) = 7 by decide +kernel] at h
  exact h
theorem sv_SG {w n : Nat} (hw : w < 2 ^ 64) (hc : sv_cnt w 8 n) (post : SX → Prop) (fl : Int32) (a : Nat → Int32) (hp : post (nI n, upd (sv_fill (w / 128) (n - 1) a) (n - 1) (nI (w % 128)))) : wpX_storeGroups post (fl, a) (lN w) := by
  have h1 : 1 ≤ n := hc.1
  have h8 : n ≤ 8 := hc.2.1
  unfold wpX_storeGroups wpX_groupCount
  dsimp only
  refine ⟨n - 1 + 1, sv_gc hw hc _ ?_ (n - 1) 1 (Nat.le_refl 1) (by omega)⟩
  refine nm_r (sv_shr7 hw) (nm_r (sv_m2 n (by omega) (by omega)) ⟨n - 1 + 1, ?_⟩)
  exact sv_sG hw h1 h8 post fl (n - 1) (w / 128) a (by omega) (by omega) hp
theorem sv_JG {m c : Nat} (hm : m < 2 ^ 64) (hc : c ≤ 8) (hl : m < 2 ^ (7 * c)) (post : Int64 → Prop) (fl : Int32) (a : Nat → Int32) (ha : ∀ j, j < c → a j &&& 127 = nI (m / 2 ^ (7 * (c - 1 - j)) % 128)) (hp : post (lN m)) : wpX_joinGroups post (fl, a) (nI c) := by
  unfold wpX_joinGroups
  dsimp only
  refine ⟨c + 1, ?_⟩
  have h := sv_jg hm hc post fl a ha hp c 0 (by omega)
  rw [sv_div0.mpr hl] at h
  exact h
end
section
/-- one value w below 2^64 and one length n: the reference holds w and n, the component n and the bytes of w in n bytes -/
def i_Rel (_ : Nat) (u : SX) (v : SY) : Prop := ∃ (w n : Nat) (a : Nat → Int32), w < 2 ^ 64 ∧ n ≤ 9 ∧ u = (nI n, a) ∧ v = (lN w, nI n) ∧ (n = 9 ∨ w < 2 ^ (7 * n)) ∧ ∀ j, j < n → a j = nI (sv_byte w n j)
theorem i_up {k : Nat} {u : SX} {v : SY} (h : i_Rel k u v) : i_Rel (k + 3) u v := h
theorem i_vc0 : wpX_init (fun u => wpY_init (fun v => i_Rel 0 u v)) := ⟨0, 0, fun _ => 0, by decide, by decide, rfl, rfl, Or.inr (by decide), fun j h => absurd h (Nat.not_lt_zero j)⟩
theorem i_vc_put {k : Nat} {u : SX} {v : SY} (I : i_Rel k u v) (hk : k + 3 ≤ 1536) (a0 : Int64) : wpX_put (fun r u' => wpY_put (fun r' v' => r' = r ∧ i_Rel (k + 3) u' v') v a0) u a0 := by
  obtain ⟨w0, n0, a, _, _, rfl, rfl, _, _⟩ := I
  obtain ⟨w, hw, rfl⟩ := wb_of a0
  obtain ⟨n, hc⟩ := sv_cnt_ex w
  have h1 : 1 ≤ n := hc.1
  have h9 : n ≤ 9 := hc.2.1
  have hY : ∀ post : Int32 → SY → Prop, post (nI n) (lN w, nI n) → wpY_put post (lN w0, nI n0) (lN w) := fun post hp => ⟨n - 1 + 1, sv_yc hw hc post (lN w) (nI n0) hp (n - 1) 1 (Nat.le_refl 1) (by omega)⟩
  by_cases z : w / 2 ^ 56 = 0
  · obtain ⟨h8, hlt, hc8⟩ := sv_cnt_8 hc z
    refine br_t ?_ (sv_SG hw hc8 _ _ a ?_)
    · rw [sv_shr56 hw]
      exact (sv_z (sv_div hw)).mpr z
    · exact hY _ ⟨rfl, w, n, _, hw, h9, rfl, rfl, Or.inr hlt, sv_byte_n w n a h1 h8⟩
  · have e9 : n = 9 := sv_cnt_9 hc z
    subst e9
    refine br_f ?_ (sv_N9 hw _ _ a ?_)
    · rw [sv_shr56 hw, sv_z (sv_div hw)]
      exact z
    · exact hY _ ⟨rfl, w, 9, _, hw, h9, rfl, rfl, Or.inl rfl, sv_byte_9 w a⟩
theorem i_vc_get {k : Nat} {u : SX} {v : SY} (I : i_Rel k u v) (hk : k + 3 ≤ 1536) : wpX_get (fun r => wpY_get (fun r' => r' = r ∧ i_Rel (k + 3) u v) v) u := by
  obtain ⟨w, n, a, hw, hn, rfl, rfl, hl, ha⟩ := id I
  by_cases e9 : n = 9
  · subst e9
    refine br_t rfl (sv_JG (m := w / 256) (c := 8) (by omega) (by omega) (by omega) _ _ a ?_ (And.intro ?_ I))
    · intro j hj
      rw [ha j (by omega)]
      exact sv_grp_9 w j hj
    · rw [ha 8 (by omega), show sv_byte w 9 8 = w % 256 from rfl]
      exact (sv_join8 hw).symm
  · have hlt : w < 2 ^ (7 * n) := by
      rcases hl with e | e
      · exact absurd e e9
      · exact e
    refine br_f (fun z => e9 ((nI_eq (b := 9) (by omega) (by omega)).mp z)) (sv_JG hw (by omega) hlt _ _ a ?_ (And.intro rfl I))
    intro j hj
    rw [ha j hj]
    exact sv_grp_n w n j (by omega) hj
theorem i_vc_cell {k : Nat} {u : SX} {v : SY} (I : i_Rel k u v) (hk : k + 3 ≤ 1536) (v1 : Int32) : wpX_cell (fun r => wpY_cell (fun r' => r' = r ∧ i_Rel (k + 3) u v) v v1) u v1 := by
  obtain ⟨w, n, a, hw, hn, rfl, rfl, hl, ha⟩ := id I
  by_cases h0 : v1 < 0
  · exact br_t h0 (br_t h0 (And.intro rfl I))
  · obtain ⟨j, hj, rfl⟩ := nI_of h0
    by_cases hjn : j < n
    · have hlt : nI j < nI n := nI_lt hjn (by omega)
      refine br_f h0 (br_t hlt (And.intro (vp_in_nI (by omega) (by omega)) (br_f h0 (br_t hlt ?_))))
      rw [nI_clamp hj, ha j hjn]
      by_cases e9 : n = 9
      · subst e9
        refine br_t rfl (pk_eq j 8 (fun e => And.intro ?_ I) (fun e => And.intro ?_ I))
        · subst e
          exact sv_low8 hw
        · rw [sv_57 j (by omega), wb_shr hw (by omega), sv_low (sv_div hw), (sv_or _ (Nat.mod_lt _ (by decide))).2]
          unfold sv_byte
          rw [if_pos rfl, if_neg e]
      · refine br_f (fun z => e9 ((nI_eq (b := 9) (by omega) (by omega)).mp z)) ?_
        refine nm_r (e' := nI (w / 2 ^ (7 * (n - 1 - j)) % 128)) ?_ ?_
        · rw [sv_lm n (by omega) j hjn, wb_shr hw (by omega), sv_low (sv_div hw)]
        · refine pk_le (n - 1) j (fun e => And.intro ?_ I) (fun e => And.intro ?_ I) (hx := sv_m1 n (by omega) (by omega))
          · unfold sv_byte
            rw [if_neg e9, if_pos (show j = n - 1 by omega), show n - 1 - j = 0 by omega, Nat.mul_zero, Nat.pow_zero, Nat.div_one]
          · rw [(sv_or _ (Nat.mod_lt _ (by decide))).2]
            unfold sv_byte
            rw [if_neg e9, if_neg (show ¬ j = n - 1 by omega)]
    · have hlt : ¬ nI j < nI n := nI_nlt (by omega) hj
      exact br_f h0 (br_f hlt (br_f h0 (br_f hlt (And.intro rfl I))))
end
