/-- one value w below 2^64 and one length n: the reference holds w and n, the component n and the bytes of w in n bytes -/
def i_Rel (_ : Nat) (u : SX) (v : SY) : Prop := ∃ (w n : Nat) (a : Nat → Int32), w < 2 ^ 64 ∧ n ≤ 9 ∧ u = (nI n, a) ∧ v = (lN w, nI n) ∧ (n = 9 ∨ w < 2 ^ (7 * n)) ∧ ∀ j, j < n → a j = nI (sv_byte w n j)
theorem i_up {k : Nat} {u : SX} {v : SY} (h : i_Rel k u v) : i_Rel (k + 3) u v := h
theorem i_vc0 : wpX_init (fun u => wpY_init (fun v => i_Rel 0 u v)) := ⟨0, 0, fun _ => 0, by decide, by decide, rfl, rfl, Or.inr (by decide), fun j h => absurd h (Nat.not_lt_zero j)⟩
theorem i_vc_put {k : Nat} {u : SX} {v : SY} (I : i_Rel k u v) (hk : k + 3 ≤ 1536) (a0 : Int64) : wpX_put (fun r u' => wpY_put (fun r' v' => r' = r ∧ i_Rel (k + 3) u' v') v a0) u a0 := by
  obtain ⟨w0, n0, a, _, _, rfl, rfl, _, _⟩ := I
  obtain ⟨w, hw, rfl⟩ := wb_of a0
  obtain ⟨n, hc⟩ := sv_cnt_ex w
  have h1 : 1 ≤ n := hc.1
  have h9 : n ≤ 9 := hc.2.1
  have hY : ∀ post : Int32 → SY → Prop, post (nI n) (lN w, nI n) → wpY_put post (lN w0, nI n0) (lN w) := fun post hp => ⟨n - 1 + 1, sv_yc hw hc post (lN w) (nI n0) hp (n - 1) 1 (Nat.le_refl 1) (by omega)⟩
  by_cases z : w / 2 ^ 56 = 0
  · obtain ⟨h8, hlt, hc8⟩ := sv_cnt_8 hc z
    refine br_t ?_ (sv_SG hw hc8 _ _ a ?_)
    · rw [sv_shr56 hw]
      exact (sv_z (sv_div hw)).mpr z
    · exact hY _ ⟨rfl, w, n, _, hw, h9, rfl, rfl, Or.inr hlt, sv_byte_n w n a h1 h8⟩
  · have e9 : n = 9 := sv_cnt_9 hc z
    subst e9
    refine br_f ?_ (sv_N9 hw _ _ a ?_)
    · rw [sv_shr56 hw, sv_z (sv_div hw)]
      exact z
    · exact hY _ ⟨rfl, w, 9, _, hw, h9, rfl, rfl, Or.inl rfl, sv_byte_9 w a⟩
theorem i_vc_get {k : Nat} {u : SX} {v : SY} (I : i_Rel k u v) (hk : k + 3 ≤ 1536) : wpX_get (fun r => wpY_get (fun r' => r' = r ∧ i_Rel (k + 3) u v) v) u := by
  obtain ⟨w, n, a, hw, hn, rfl, rfl, hl, ha⟩ := id I
  by_cases e9 : n = 9
  · subst e9
    refine br_t rfl (sv_JG (m := w / 256) (c := 8) (by omega) (by omega) (by omega) _ _ a ?_ (And.intro ?_ I))
    · intro j hj
      rw [ha j (by omega)]
      exact sv_grp_9 w j hj
    · rw [ha 8 (by omega), show sv_byte w 9 8 = w % 256 from rfl]
      exact (sv_join8 hw).symm
  · have hlt : w < 2 ^ (7 * n) := by
      rcases hl with e | e
      · exact absurd e e9
      · exact e
    refine br_f (fun z => e9 ((nI_eq (b := 9) (by omega) (by omega)).mp z)) (sv_JG hw (by omega) hlt _ _ a ?_ (And.intro rfl I))
    intro j hj
    rw [ha j hj]
    exact sv_grp_n w n j (by omega) hj
theorem i_vc_cell {k : Nat} {u : SX} {v : SY} (I : i_Rel k u v) (hk : k + 3 ≤ 1536) (v1 : Int32) : wpX_cell (fun r => wpY_cell (fun r' => r' = r ∧ i_Rel (k + 3) u v) v v1) u v1 := by
  obtain ⟨w, n, a, hw, hn, rfl, rfl, hl, ha⟩ := id I
  by_cases h0 : v1 < 0
  · exact br_t h0 (br_t h0 (And.intro rfl I))
  · obtain ⟨j, hj, rfl⟩ := nI_of h0
    by_cases hjn : j < n
    · have hlt : nI j < nI n := nI_lt hjn (by omega)
      refine br_f h0 (br_t hlt (And.intro (vp_in_nI (by omega) (by omega)) (br_f h0 (br_t hlt ?_))))
      rw [nI_clamp hj, ha j hjn]
      by_cases e9 : n = 9
      · subst e9
        refine br_t rfl (pk_eq j 8 (fun e => And.intro ?_ I) (fun e => And.intro ?_ I))
        · subst e
          exact sv_low8 hw
        · rw [sv_57 j (by omega), wb_shr hw (by omega), sv_low (sv_div hw), (sv_or _ (Nat.mod_lt _ (by decide))).2]
          unfold sv_byte
          rw [if_pos rfl, if_neg e]
      · refine br_f (fun z => e9 ((nI_eq (b := 9) (by omega) (by omega)).mp z)) ?_
        refine nm_r (e' := nI (w / 2 ^ (7 * (n - 1 - j)) % 128)) ?_ ?_
        · rw [sv_lm n (by omega) j hjn, wb_shr hw (by omega), sv_low (sv_div hw)]
        · refine pk_le (n - 1) j (fun e => And.intro ?_ I) (fun e => And.intro ?_ I) (hx := sv_m1 n (by omega) (by omega))
          · unfold sv_byte
            rw [if_neg e9, if_pos (show j = n - 1 by omega), show n - 1 - j = 0 by omega, Nat.mul_zero, Nat.pow_zero, Nat.div_one]
          · rw [(sv_or _ (Nat.mod_lt _ (by decide))).2]
            unfold sv_byte
            rw [if_neg e9, if_neg (show ¬ j = n - 1 by omega)]
    · have hlt : ¬ nI j < nI n := nI_nlt (by omega) hj
      exact br_f h0 (br_f hlt (br_f h0 (br_f hlt (And.intro rfl I))))
