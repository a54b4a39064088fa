theorem i_vc_majority {k : Nat} {u : SX} {v : SY} (I : i_Rel k u v) (hk : k + 3 ≤ 1536) (v1 : Int32) : wpX_majority (fun r u' => wpY_majority (fun r' v' => r' = r ∧ i_Rel (k + 3) u' v') v v1) u v1 := by
  obtain ⟨c, s, p, tA, sA, oA, rA, dA, yS, yK, hc, hs, hp, rfl, rfl⟩ := I
  unfold wpX_majority wpY_majority
  rcases ss_ix v1 (n := 7) (by decide) with h | ⟨r, hr, rfl⟩
  · exact sx_isRule_b h (br_t rfl (sy_noRule_b h (br_f (by decide) ⟨rfl, ss_rel hc hs hp⟩)))
  · have hg : ∀ i, i < c → ss_S r c p s i ≤ 62 := fun i hi => ss_S_62 (by omega) hi
    have hall : ss_sum (ss_S r c p s) c ≤ 372 := Nat.le_trans (ss_sum_le hg) (Nat.mul_le_mul hc (Nat.le_refl 62))
    exact sx_isRule_o hr (br_f (by decide) (sx_ps hc hr rfl (by omega) hp (fun sh rs od hsh => sx_sum_shares hc hsh ⟨c + 1, sx_m41 hc hall c (ss_S r c p s) 0 0 sh (by omega) hsh hg (by omega) (fun sh' => sy_noRule_o hr (br_t rfl (sy_gv hc hr rfl (by omega) (ss_h9 hp) (fun sh2 hsh2 => sy_m23 hc hsh2 (sy_maj hc hsh2 hg (fun sh3 => ⟨rfl, ss_rel hc hs hp⟩))))))⟩)))
