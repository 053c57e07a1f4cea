/-! ===== groups of seven bits of a natural number below 2^64 ===== -/
theorem sv_div {m k : Nat} (h : m < 2 ^ 64) : m / 2 ^ k < 2 ^ 64 := Nat.lt_of_le_of_lt (Nat.div_le_self _ _) h
theorem sv_z {m : Nat} (h : m < 2 ^ 64) : lN m = 0 ↔ m = 0 := by
  constructor
  · intro e
    have h2 := wb_tn h
    rw [e] at h2
    exact h2.symm
  · intro e; subst e; rfl
theorem sv_low {m : Nat} (h : m < 2 ^ 64) : (lN m &&& 127).toInt32 = nI (m % 128) := by
  have e : lN m &&& 127 = lN (m % 128) := wb_mask (k := 7) h (by decide)
  rw [e, lN_i]
theorem sv_low8 {m : Nat} (h : m < 2 ^ 64) : (lN m &&& 255).toInt32 = nI (m % 256) := by
  have e : lN m &&& 255 = lN (m % 256) := wb_mask (k := 8) h (by decide)
  rw [e, lN_i]
theorem sv_shr7 {m : Nat} (h : m < 2 ^ 64) : ((lN m).toUInt64 >>> ((7 : Int32).toInt64.toUInt64 &&& Int64.toUInt64 63)).toInt64 = lN (m / 128) := wb_shr (k := 7) h (by decide)
theorem sv_shr8 {m : Nat} (h : m < 2 ^ 64) : ((lN m).toUInt64 >>> ((8 : Int32).toInt64.toUInt64 &&& Int64.toUInt64 63)).toInt64 = lN (m / 256) := wb_shr (k := 8) h (by decide)
theorem sv_shr56 {m : Nat} (h : m < 2 ^ 64) : ((lN m).toUInt64 >>> ((56 : Int32).toInt64.toUInt64 &&& Int64.toUInt64 63)).toInt64 = lN (m / 2 ^ 56) := wb_shr (k := 56) h (by decide)
theorem sv_or : ∀ g, g < 128 → (128 : Int32) ||| nI g = nI (128 + g) ∧ nI g ||| (128 : Int32) = nI (128 + g) := by decide +kernel
theorem sv_and : ∀ g, g < 256 → nI g &&& (127 : Int32) = nI (g % 128) := by decide +kernel
theorem sv_mul : ∀ n, n < 16 → (7 : Int32) * nI n = nI (7 * n) := by decide +kernel
theorem sv_57 : ∀ i, i < 8 → (57 : Int32) - 7 * nI i = nI (57 - 7 * i) := by decide +kernel
theorem sv_lm : ∀ n, n < 10 → ∀ i, i < n → (7 : Int32) * (nI n - 1 - nI i) = nI (7 * (n - 1 - i)) := by decide +kernel
theorem sv_m1 : ∀ n, n < 10 → 0 < n → nI n - 1 = nI (n - 1) := by decide +kernel
theorem sv_m2 : ∀ n, n < 10 → 0 < n → nI n - 2 = nI (n - 1) + (-1) := by decide +kernel
theorem sv_neg : ∀ t, t < 10 → (nI t + (-1) < 0 ↔ t = 0) := by decide +kernel
theorem sv_pos : ∀ t, t < 10 → (0 ≤ nI t + (-1) ↔ ¬ t = 0) := by decide +kernel
/-- seven bits more -/
theorem sv_dd (m k : Nat) : m / 128 / 2 ^ (7 * k) = m / 2 ^ (7 * (k + 1)) := by
  rw [Nat.div_div_eq_div_mul, show (128 : Nat) = 2 ^ 7 from rfl, ← Nat.pow_add]
  congr 2; omega
theorem sv_dd' (m k : Nat) : m / 2 ^ (7 * (k + 1)) = m / 2 ^ (7 * k) / 128 := by
  rw [Nat.div_div_eq_div_mul, show (128 : Nat) = 2 ^ 7 from rfl, ← Nat.pow_add]
  congr 2
theorem sv_d8 (m k : Nat) : m / 256 / 2 ^ (7 * k) = m / 2 ^ (8 + 7 * k) := by
  rw [Nat.div_div_eq_div_mul, show (256 : Nat) = 2 ^ 8 from rfl, ← Nat.pow_add]
/-- the array after t groups have been written down to cell 0, the lowest of m in cell t - 1 -/
def sv_fill (m t : Nat) (a : Nat → Int32) : Nat → Int32 := fun j => if j < t then nI (128 + m / 2 ^ (7 * (t - 1 - j)) % 128) else a j
theorem sv_fill_0 (m : Nat) (a : Nat → Int32) : sv_fill m 0 a = a := by
  funext j
  exact if_neg (Nat.not_lt_zero j)
theorem sv_fill_lt {m t j : Nat} {a : Nat → Int32} (h : j < t) : sv_fill m t a j = nI (128 + m / 2 ^ (7 * (t - 1 - j)) % 128) := if_pos h
theorem sv_fill_s (m t : Nat) (a : Nat → Int32) : sv_fill (m / 128) t (upd a t (nI (128 + m % 128))) = sv_fill m (t + 1) a := by
  funext j
  rcases Nat.lt_trichotomy j t with h | h | h
  · rw [sv_fill_lt h, sv_fill_lt (show j < t + 1 by omega), sv_dd, show t - 1 - j + 1 = t + 1 - 1 - j by omega]
  · subst h
    rw [sv_fill_lt (show j < j + 1 by omega)]
    unfold sv_fill
    rw [if_neg (Nat.lt_irrefl j), pk_us, show j + 1 - 1 - j = 0 by omega, Nat.mul_zero, Nat.pow_zero, Nat.div_one]
  · unfold sv_fill
    rw [if_neg (show ¬ j < t by omega), if_neg (show ¬ j < t + 1 by omega), pk_un (show j ≠ t by omega)]
/-- the count of groups: the least n from 1 on with nothing beyond it, or K -/
def sv_cnt (w K n : Nat) : Prop := 1 ≤ n ∧ n ≤ K ∧ (n = K ∨ w / 2 ^ (7 * n) = 0) ∧ ∀ j, 1 ≤ j → j < n → ¬ w / 2 ^ (7 * j) = 0
theorem sv_cnt_up (w : Nat) : ∀ d i, 1 ≤ i → (∀ j, 1 ≤ j → j < i → ¬ w / 2 ^ (7 * j) = 0) → ∃ n, i ≤ n ∧ sv_cnt w (i + d) n := by
  intro d
  induction d with
  | zero => exact fun i h1 h => ⟨i, Nat.le_refl i, h1, Nat.le_refl i, Or.inl rfl, h⟩
  | succ d ih =>
    intro i h1 h
    by_cases z : w / 2 ^ (7 * i) = 0
    · exact ⟨i, Nat.le_refl i, h1, by omega, Or.inr z, h⟩
    · obtain ⟨n, hn, hc⟩ := ih (i + 1) (by omega) (by
        intro j hj hj2
        by_cases e : j = i
        · subst e; exact z
        · exact h j hj (by omega))
      rw [show i + 1 + d = i + (d + 1) by omega] at hc
      exact ⟨n, by omega, hc⟩
theorem sv_cnt_ex (w : Nat) : ∃ n, sv_cnt w 9 n := by
  obtain ⟨n, _, h⟩ := sv_cnt_up w 8 1 (Nat.le_refl 1) (fun j h1 h2 => absurd h2 (by omega))
  exact ⟨n, h⟩
theorem sv_div0 {w k : Nat} : w / 2 ^ k = 0 ↔ w < 2 ^ k := by
  rw [Nat.div_eq_zero_iff]
  have := Nat.two_pow_pos k
  omega
theorem sv_cnt_8 {w n : Nat} (h : sv_cnt w 9 n) (hw : w / 2 ^ 56 = 0) : n ≤ 8 ∧ w < 2 ^ (7 * n) ∧ sv_cnt w 8 n := by
  obtain ⟨h1, h9, he, hj⟩ := h
  have hn : n ≤ 8 := by
    rcases Nat.lt_or_ge 8 n with z | z
    · exact absurd hw (hj 8 (by omega) z)
    · exact z
  have h0 : w / 2 ^ (7 * n) = 0 := by
    rcases he with e | e
    · omega
    · exact e
  exact ⟨hn, sv_div0.mp h0, h1, hn, Or.inr h0, hj⟩
theorem sv_cnt_9 {w n : Nat} (h : sv_cnt w 9 n) (hw : ¬ w / 2 ^ 56 = 0) : n = 9 := by
  obtain ⟨h1, h9, he, hj⟩ := h
  rcases he with e | e
  · exact e
  · by_cases z : n = 9
    · exact z
    · refine absurd (sv_div0.mpr (Nat.lt_of_lt_of_le (sv_div0.mp e) ?_)) hw
      exact Nat.pow_le_pow_right (by decide) (by omega)
/-- the byte j of the encoding of w in n bytes -/
def sv_byte (w n j : Nat) : Nat := if n = 9 then (if j = 8 then w % 256 else 128 + w / 2 ^ (57 - 7 * j) % 128) else if j = n - 1 then w % 128 else 128 + w / 2 ^ (7 * (n - 1 - j)) % 128
theorem sv_byte_lt (w n j : Nat) : sv_byte w n j < 256 := by
  unfold sv_byte
  have h1 := Nat.mod_lt w (show 0 < 256 by decide)
  have h2 := Nat.mod_lt (w / 2 ^ (57 - 7 * j)) (show 0 < 128 by decide)
  have h3 := Nat.mod_lt w (show 0 < 128 by decide)
  have h4 := Nat.mod_lt (w / 2 ^ (7 * (n - 1 - j))) (show 0 < 128 by decide)
  split
  · split <;> omega
  · split <;> omega
theorem sv_byte_9 (w : Nat) (a : Nat → Int32) : ∀ j, j < 9 → upd (sv_fill (w / 256) 8 a) 8 (nI (w % 256)) j = nI (sv_byte w 9 j) := by
  intro j hj
  unfold sv_byte
  rw [if_pos rfl]
  by_cases e : j = 8
  · subst e; rw [pk_us, if_pos rfl]
  · rw [pk_un e, if_neg e, sv_fill_lt (show j < 8 by omega), sv_d8, show 8 + 7 * (8 - 1 - j) = 57 - 7 * j by omega]
theorem sv_byte_n (w n : Nat) (a : Nat → Int32) (h1 : 1 ≤ n) (h8 : n ≤ 8) : ∀ j, j < n → upd (sv_fill (w / 128) (n - 1) a) (n - 1) (nI (w % 128)) j = nI (sv_byte w n j) := by
  intro j hj
  unfold sv_byte
  rw [if_neg (show ¬ n = 9 by omega)]
  by_cases e : j = n - 1
  · rw [if_pos e, e, pk_us]
  · rw [if_neg e, pk_un e, sv_fill_lt (show j < n - 1 by omega), sv_dd, show n - 1 - 1 - j + 1 = n - 1 - j by omega]
/-- the groups of the first eight bytes, and of n bytes, as joinGroups reads them -/
theorem sv_grp_9 (w j : Nat) (h : j < 8) : nI (sv_byte w 9 j) &&& 127 = nI (w / 256 / 2 ^ (7 * (8 - 1 - j)) % 128) := by
  rw [sv_and _ (sv_byte_lt w 9 j)]
  unfold sv_byte
  rw [if_pos rfl, if_neg (show ¬ j = 8 by omega), sv_d8, show 8 + 7 * (8 - 1 - j) = 57 - 7 * j by omega, Nat.add_mod_left, Nat.mod_mod]
theorem sv_grp_n (w n j : Nat) (h8 : n ≤ 8) (h : j < n) : nI (sv_byte w n j) &&& 127 = nI (w / 2 ^ (7 * (n - 1 - j)) % 128) := by
  rw [sv_and _ (sv_byte_lt w n j)]
  unfold sv_byte
  rw [if_neg (show ¬ n = 9 by omega)]
  by_cases e : j = n - 1
  · rw [if_pos e, show n - 1 - j = 0 by omega, Nat.mul_zero, Nat.pow_zero, Nat.div_one, Nat.mod_mod]
  · rw [if_neg e, Nat.add_mod_left, Nat.mod_mod]
/-- one step of joinGroups -/
theorem sv_join {m : Nat} (d : Nat) (h : m < 2 ^ 64) : (lN (m / 2 ^ (7 * (d + 1))) <<< ((7 : Int32).toInt64 &&& 63)) ||| (nI (m / 2 ^ (7 * d) % 128)).toInt64 = lN (m / 2 ^ (7 * d)) := by
  have hm : m / 2 ^ (7 * d) < 2 ^ 64 := sv_div h
  rw [sv_dd']
  generalize m / 2 ^ (7 * d) = q at hm
  have hq := Nat.div_add_mod' q 128
  have hr := Nat.mod_lt q (show 0 < 128 by decide)
  have e : lN (q / 128) <<< ((7 : Int32).toInt64 &&& 63) = lN (q / 128 * 128) := wb_shl (q / 128) (k := 7) (by decide)
  rw [e, nI_l (by omega), g_or (k := 7) (p := 128) rfl hr (by omega), hq]
theorem sv_join8 {w : Nat} (h : w < 2 ^ 64) : (lN (w / 256) <<< ((8 : Int32).toInt64 &&& 63)) ||| (nI (w % 256)).toInt64 = lN w := by
  have hq := Nat.div_add_mod' w 256
  have hr := Nat.mod_lt w (show 0 < 256 by decide)
  have e : lN (w / 256) <<< ((8 : Int32).toInt64 &&& 63) = lN (w / 256 * 256) := wb_shl (w / 256) (k := 8) (by decide)
  rw [e, nI_l (by omega), g_or (k := 8) (p := 256) rfl hr (by omega), hq]
