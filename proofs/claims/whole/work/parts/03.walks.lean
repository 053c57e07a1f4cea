/-! ===== the loops of both sides, each against the pure picture ===== -/
theorem sv_gc {w n : Nat} (hw : w < 2 ^ 64) (hc : sv_cnt w 8 n) (post : Int32 → Prop) (hp : post (nI n)) : ∀ d i, 1 ≤ i → i + d = n → wX_groupCount_2 post (lN w) (d + 1) (nI i) := by
  obtain ⟨h1, hK, he, hj⟩ := hc
  intro d
  induction d with
  | zero =>
    intro i hi e
    have e' : i = n := by omega
    subst e'
    refine pk_le 8 i (fun _ => hp) (fun hlt => br_t ?_ hp)
    rw [sv_mul i (by omega), wb_shr hw (by omega)]
    rcases he with e | e
    · omega
    · exact (sv_z (sv_div hw)).mpr e
  | succ d ih =>
    intro i hi e
    refine pk_le 8 i (fun z => absurd z (by omega)) (fun hlt => br_f ?_ (nm_r (nI_1 i) (ih (i + 1) (by omega) (by omega))))
    rw [sv_mul i (by omega), wb_shr hw (by omega), sv_z (sv_div hw)]
    exact hj i hi (by omega)
theorem sv_yc {w n : Nat} (hw : w < 2 ^ 64) (hc : sv_cnt w 9 n) (post : Int32 → SY → Prop) (fv : Int64) (fl : Int32) (hp : post (nI n) (fv, nI n)) : ∀ d i, 1 ≤ i → i + d = n → wY_put_10 post (lN w) fv fl (d + 1) (nI i) := by
  obtain ⟨h1, hK, he, hj⟩ := hc
  intro d
  induction d with
  | zero =>
    intro i hi e
    have e' : i = n := by omega
    subst e'
    refine pk_le 9 i (fun _ => hp) (fun hlt => br_t ?_ hp)
    rw [sv_mul i (by omega), wb_shr hw (by omega)]
    rcases he with e | e
    · omega
    · exact (sv_z (sv_div hw)).mpr e
  | succ d ih =>
    intro i hi e
    refine pk_le 9 i (fun z => absurd z (by omega)) (fun hlt => br_f ?_ (nm_r (nI_1 i) (ih (i + 1) (by omega) (by omega))))
    rw [sv_mul i (by omega), wb_shr hw (by omega), sv_z (sv_div hw)]
    exact hj i hi (by omega)
/-- a written group -/
theorem sv_put (a : Nat → Int32) {m t : Nat} (hm : m < 2 ^ 64) (ht : t < 9) : upd a (nI t).toNatClampNeg (128 ||| (lN m &&& 127).toInt32) = upd a t (nI (128 + m % 128)) := by
  rw [nI_clamp (by omega), sv_low hm, (sv_or _ (Nat.mod_lt _ (by decide))).1]
theorem sv_s9 {w : Nat} (hw : w < 2 ^ 64) (post : SX → Prop) (fl : Int32) : ∀ t m a, t ≤ 8 → m < 2 ^ 64 → post (9, upd (sv_fill m t a) 8 (nI (w % 256))) → wX_storeNineBytes_9 post (lN w) fl (t + 1) (lN m) (nI t + (-1)) a := by
  intro t
  induction t with
  | zero =>
    intro m a ht hm hp
    refine br_t ((sv_neg 0 (by decide)).mpr rfl) (nm_r ?_ hp)
    rw [sv_low8 hw, sv_fill_0]
  | succ t ih =>
    intro m a ht hm hp
    rw [pk_m1]
    refine br_f (nI_pos (by omega)) (And.intro (vp_in_nI (by omega) (by omega)) (nm_r (sv_put a hm (by omega)) (nm_r (sv_shr7 hm) (nm_e (ih (m / 128) _ (by omega) (by omega) ?_)))))
    rw [sv_fill_s]
    exact hp
theorem sv_sG {w n : Nat} (hw : w < 2 ^ 64) (h1 : 1 ≤ n) (h8 : n ≤ 8) (post : SX → Prop) (fl : Int32) : ∀ t m a, t ≤ 8 → m < 2 ^ 64 → post (nI n, upd (sv_fill m t a) (n - 1) (nI (w % 128))) → wX_storeGroups_16 post (lN w) (nI n) fl (t + 1) (lN m) (nI t + (-1)) a := by
  intro t
  induction t with
  | zero =>
    intro m a ht hm hp
    refine br_t ((sv_neg 0 (by decide)).mpr rfl) (And.intro ?_ (nm_r ?_ hp))
    · rw [sv_m1 n (by omega) (by omega)]
      exact vp_in_nI (by omega) (by omega)
    · rw [sv_m1 n (by omega) (by omega), nI_clamp (by omega), sv_low hw, sv_fill_0]
  | succ t ih =>
    intro m a ht hm hp
    rw [pk_m1]
    refine br_f (nI_pos (by omega)) (And.intro (vp_in_nI (by omega) (by omega)) (nm_r (sv_put a hm (by omega)) (nm_r (sv_shr7 hm) (nm_e (ih (m / 128) _ (by omega) (by omega) ?_)))))
    rw [sv_fill_s]
    exact hp
theorem sv_jg {m c : Nat} (hm : m < 2 ^ 64) (hc : c ≤ 8) (post : Int64 → Prop) (fl : Int32) (a : Nat → Int32) (ha : ∀ j, j < c → a j &&& 127 = nI (m / 2 ^ (7 * (c - 1 - j)) % 128)) (hp : post (lN m)) : ∀ d i, i + d = c → wX_joinGroups_5 post (nI c) fl a (d + 1) (lN (m / 2 ^ (7 * d))) (nI i) := by
  intro d
  induction d with
  | zero =>
    intro i e
    refine pk_le c i (fun _ => ?_) (fun z => absurd z (by omega))
    rw [Nat.mul_zero, Nat.pow_zero, Nat.div_one]
    exact hp
  | succ d ih =>
    intro i e
    refine pk_le c i (fun z => absurd z (by omega)) (fun _ => And.intro (vp_in_nI (by omega) (by omega)) (nm_r ?_ (nm_r (nI_1 i) (ih (i + 1) (by omega)))))
    rw [nI_clamp (by omega), ha i (by omega), show c - 1 - i = d by omega]
    exact sv_join d hm
/-! ===== the private methods, at a general post ===== -/
theorem sv_N9 {w : Nat} (hw : w < 2 ^ 64) (post : SX → Prop) (fl : Int32) (a : Nat → Int32) (hp : post (9, upd (sv_fill (w / 256) 8 a) 8 (nI (w % 256)))) : wpX_storeNineBytes post (fl, a) (lN w) := by
  unfold wpX_storeNineBytes
  dsimp only
  refine nm_r (sv_shr8 hw) ⟨9, ?_⟩
  have h := sv_s9 hw post fl 8 (w / 256) a (Nat.le_refl 8) (by omega) hp
  rw [show nI 8 + (-1) = 7 by decide +kernel] at h
  exact h
theorem sv_SG {w n : Nat} (hw : w < 2 ^ 64) (hc : sv_cnt w 8 n) (post : SX → Prop) (fl : Int32) (a : Nat → Int32) (hp : post (nI n, upd (sv_fill (w / 128) (n - 1) a) (n - 1) (nI (w % 128)))) : wpX_storeGroups post (fl, a) (lN w) := by
  have h1 : 1 ≤ n := hc.1
  have h8 : n ≤ 8 := hc.2.1
  unfold wpX_storeGroups wpX_groupCount
  dsimp only
  refine ⟨n - 1 + 1, sv_gc hw hc _ ?_ (n - 1) 1 (Nat.le_refl 1) (by omega)⟩
  refine nm_r (sv_shr7 hw) (nm_r (sv_m2 n (by omega) (by omega)) ⟨n - 1 + 1, ?_⟩)
  exact sv_sG hw h1 h8 post fl (n - 1) (w / 128) a (by omega) (by omega) hp
theorem sv_JG {m c : Nat} (hm : m < 2 ^ 64) (hc : c ≤ 8) (hl : m < 2 ^ (7 * c)) (post : Int64 → Prop) (fl : Int32) (a : Nat → Int32) (ha : ∀ j, j < c → a j &&& 127 = nI (m / 2 ^ (7 * (c - 1 - j)) % 128)) (hp : post (lN m)) : wpX_joinGroups post (fl, a) (nI c) := by
  unfold wpX_joinGroups
  dsimp only
  refine ⟨c + 1, ?_⟩
  have h := sv_jg hm hc post fl a ha hp c 0 (by omega)
  rw [sv_div0.mpr hl] at h
  exact h
