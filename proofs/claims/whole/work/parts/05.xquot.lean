theorem sx_sum_polled {post : Int32 → Prop} {c : Nat} {sC : Int32} {pA tA sA oA rA dA : Nat → Int32} {v : Nat → Nat} (hc : c ≤ 6) (h : ss_sh c pA v) (hp : post (nI (ss_sum v c))) : wpX_sumOf__polled post (nI c, sC, pA, tA, sA, oA, rA, dA) :=
  ss_loop (fun n i => wX_sumOf__polled_4 post (nI c) sC pA tA sA oA rA dA n (nI (ss_sum v i)) (nI i)) c 0 (Nat.zero_le _)
    (fun n => br_t (nI_le (Nat.le_refl c) (by omega)) hp)
    (fun n i _ hi ih => br_f (nI_ge hi (by omega)) ⟨vp_in_nI (by omega) (by decide), nm_r (e' := nI (ss_sum v (i + 1))) (by rw [ss_sh_at h hc hi, nI_add]; rfl) (nm_r (nI_1 i) ih)⟩)
theorem sx_sum_shares {post : Int32 → Prop} {c : Nat} {sC : Int32} {pA tA sA oA rA dA : Nat → Int32} {v : Nat → Nat} (hc : c ≤ 6) (h : ss_sh c sA v) (hp : post (nI (ss_sum v c))) : wpX_sumOf__shares post (nI c, sC, pA, tA, sA, oA, rA, dA) :=
  ss_loop (fun n i => wX_sumOf__shares_4 post (nI c) sC pA tA sA oA rA dA n (nI (ss_sum v i)) (nI i)) c 0 (Nat.zero_le _)
    (fun n => br_t (nI_le (Nat.le_refl c) (by omega)) hp)
    (fun n i _ hi ih => br_f (nI_ge hi (by omega)) ⟨vp_in_nI (by omega) (by decide), nm_r (e' := nI (ss_sum v (i + 1))) (by rw [ss_sh_at h hc hi, nI_add]; rfl) (nm_r (nI_1 i) ih)⟩)
theorem sx_sum_otherShares {post : Int32 → Prop} {c : Nat} {sC : Int32} {pA tA sA oA rA dA : Nat → Int32} {v : Nat → Nat} (hc : c ≤ 6) (h : ss_sh c oA v) (hp : post (nI (ss_sum v c))) : wpX_sumOf__otherShares post (nI c, sC, pA, tA, sA, oA, rA, dA) :=
  ss_loop (fun n i => wX_sumOf__otherShares_4 post (nI c) sC pA tA sA oA rA dA n (nI (ss_sum v i)) (nI i)) c 0 (Nat.zero_le _)
    (fun n => br_t (nI_le (Nat.le_refl c) (by omega)) hp)
    (fun n i _ hi ih => br_f (nI_ge hi (by omega)) ⟨vp_in_nI (by omega) (by decide), nm_r (e' := nI (ss_sum v (i + 1))) (by rw [ss_sh_at h hc hi, nI_add]; rfl) (nm_r (nI_1 i) ih)⟩)
theorem sx_cnt_polled {post : Int32 → Prop} {c : Nat} {sC : Int32} {pA tA sA oA rA dA : Nat → Int32} {v : Nat → Nat} (hc : c ≤ 6) (h : ss_sh c pA v) (hv : ∀ i, i < c → v i ≤ 2999) (hp : post (nI (ss_cnt (ss_A v) c))) : wpX_countWithVotes__polled post (nI c, sC, pA, tA, sA, oA, rA, dA) :=
  pk_loop (σ := Int32) (fun n i x => wX_countWithVotes__polled_4 post (nI c) sC pA tA sA oA rA dA n x (nI i)) (fun i x => x = nI (ss_cnt (ss_A v) i)) c 0 (nI 0) (Nat.zero_le _) rfl
    (fun n x hx => br_t (nI_le (Nat.le_refl c) (by omega)) (by rw [hx]; exact hp))
    (fun n i x hi hx k => by
      have hvi := hv i hi
      refine br_f (nI_ge hi (by omega)) ⟨vp_in_nI (by omega) (by decide), pk_le (v i) 0 (fun hz => nm_r (nI_1 i) (k x ?_)) (fun hz => nm_e (nm_r (nI_1 i) (k (x + 1) ?_))) (ss_sh_at h hc hi) rfl (by omega) (by decide)⟩
      · rw [hx, ss_cnt_f (decide_eq_false (by omega))]
      · rw [hx, nI_1, ss_cnt_t (decide_eq_true hz)])
theorem sx_isQ {post : Int32 → Prop} {c : Nat} {sC : Int32} {pA tA sA oA rA dA : Nat → Int32} {r : Nat} (hr : r ≤ 6) (h1 : r ≤ 4 → post 1) (h0 : 4 < r → post 0) : wpX_isQuotientRule post (nI c, sC, pA, tA, sA, oA, rA, dA) (nI r) :=
  br_f (nI_pos (by omega)) (pk_lt 4 r (fun h => h0 h) (fun h => h1 h) rfl rfl (by decide) (by omega))
theorem sx_dividend {post : Int64 → Prop} {c : Nat} {sC : Int32} {pA tA sA oA rA dA : Nat → Int32} {r x : Nat} (hr : r ≤ 4) (hp : post (lN (ss_tp r x))) : wpX_dividend post (nI c, sC, pA, tA, sA, oA, rA, dA) (nI r) (lN x) := by
  unfold ss_tp at hp
  refine pk_eq r 3 (fun e => ?_) (fun e => ?_) rfl rfl (by omega) (by decide)
  · rw [if_pos e] at hp; rw [lN_mul]; exact hp
  · rw [if_neg e] at hp; exact hp
theorem sx_divisor {post : Int64 → Prop} {c : Nat} {sC : Int32} {pA tA sA oA rA dA : Nat → Int32} {r x : Nat} (hr : r ≤ 4) (hx : x ≤ 31) (hp : post (lN (ss_dv r x))) : wpX_divisor post (nI c, sC, pA, tA, sA, oA, rA, dA) (nI r) (lN x) := by
  unfold ss_dv at hp
  refine br_f (nI_pos (by omega)) (pk_lt 3 r (fun e => ?_) (fun e => pk_eq r 0 (fun e0 => ?_) (fun e0 => pk_eq r 1 (fun e1 => ?_) (fun e1 => pk_eq r 2 (fun e2 => ?_) (fun e2 => pk_eq r 3 (fun e3 => ?_) (fun e3 => ?_) rfl rfl (by omega) (by decide)) rfl rfl (by omega) (by decide)) rfl rfl (by omega) (by decide)) rfl rfl (by omega) (by decide)) rfl rfl (by decide) (by omega))
  · rw [if_neg (by omega), if_neg (by omega), if_neg (by omega), if_neg (by omega)] at hp; exact hp
  · rw [if_pos e0] at hp; rw [lN_1]; exact hp
  · rw [if_neg e0, if_pos e1] at hp
    have e5 : (2 : Int64) * lN x + 1 = lN (2 * x + 1) := by
      show lN 2 * lN x + 1 = _
      rw [lN_mul, lN_1]
    rw [e5]; exact hp
  · rw [if_neg e0, if_neg e1, if_pos e2] at hp
    refine ek_if (d := x = 0) (lN_eq (b := 0) (by omega) (by decide)) (fun ex => ?_) (fun ex => ?_)
    · rw [if_pos ex] at hp; exact hp
    · rw [if_neg ex] at hp
      have e5 : (10 : Int64) * lN x + 5 = lN (10 * x + 5) := by
        show lN 10 * lN x + lN 5 = _
        rw [lN_mul, lN_add]
      rw [e5]; exact hp
  · rw [if_neg e0, if_neg e1, if_neg e2, if_pos e3] at hp
    rw [lN_1, lN_mul]; exact hp
  · exact trivial
theorem sx_g26 {post : Int32 → Prop} {c : Nat} {sC : Int32} {pA tA sA oA rA dA : Nat → Int32} {t b t' b' : Nat} (ht : t < 2 ^ 31) (hb : b < 2 ^ 31) (ht' : t' < 2 ^ 31) (hb' : b' < 2 ^ 31) (hn : ¬ (b = 0 ∧ b' = 0)) (h1 : ss_gt t b t' b' = true → post 1) (h0 : ss_gt t b t' b' = false → post 0) : wX_isGreater_26 post (lN t) (lN b) (lN t') (lN b') (nI c) sC pA tA sA oA rA dA := by
  have e : lN t * lN b' ≤ lN t' * lN b ↔ t * b' ≤ t' * b := by
    rw [lN_mul, lN_mul]; exact pk_lLE (ss_m63 ht hb') (ss_m63 ht' hb)
  unfold ss_gt at h1 h0
  rw [if_neg hn] at h1 h0
  exact ek_if e (fun h => h0 (decide_eq_false (by omega))) (fun h => h1 (decide_eq_true (by omega)))
theorem sx_isGreater {post : Int32 → Prop} {c : Nat} {sC : Int32} {pA tA sA oA rA dA : Nat → Int32} {t b t' b' : Nat} (ht : t < 2 ^ 31) (hb : b < 2 ^ 31) (ht' : t' < 2 ^ 31) (hb' : b' < 2 ^ 31) (h1 : ss_gt t b t' b' = true → post 1) (h0 : ss_gt t b t' b' = false → post 0) : wpX_isGreater post (nI c, sC, pA, tA, sA, oA, rA, dA) (lN t) (lN b) (lN t') (lN b') := by
  refine ek_if (d := b = 0) (lN_eq (b := 0) hb (by decide)) (fun e => ek_if (d := b' = 0) (lN_eq (b := 0) hb' (by decide)) (fun e' => ?_) (fun e' => ?_)) (fun e => ?_)
  · unfold ss_gt at h1 h0
    rw [if_pos ⟨e, e'⟩] at h1 h0
    exact ek_if (lN_le ht ht') (fun h => h0 (decide_eq_false (by omega))) (fun h => h1 (decide_eq_true (by omega)))
  · exact sx_g26 ht hb ht' hb' (fun z => e' z.2) h1 h0
  · exact sx_g26 ht hb ht' hb' (fun z => e z.1) h1 h0
theorem sx_gq_polled_shares {post : Int32 → Prop} {c : Nat} {sC : Int32} {pA tA sA oA rA dA : Nat → Int32} {v g : Nat → Nat} {r : Nat} (hc : c ≤ 6) (hr : r ≤ 4) (h : ss_sh c pA v) (hv : ∀ i, i < c → v i ≤ 2999) (hs : ss_sh c sA g) (hg : ∀ i, i < c → g i ≤ 31) (hp : post (ss_cd (-4) (ss_pick r v g c))) : wpX_greatestQuotient__polled_shares post (nI c, sC, pA, tA, sA, oA, rA, dA) (nI r) := by
  refine pk_loop (σ := Option Nat) (fun n i o => wX_greatestQuotient__polled_shares_13 post (nI r) (nI c) sC pA tA sA oA rA dA n (ss_cd (-4) o) (ss_tn r v o) (ss_bn r g o) (nI i)) (fun i o => o = ss_pick r v g i) c 0 none (Nat.zero_le _) rfl
    (fun n o ho => br_t (nI_le (Nat.le_refl c) (by omega)) (by rw [ho]; exact hp))
    (fun n i o hi ho k => ?_)
  have hvi := hv i hi
  have e1 := ss_sh_at h hc hi
  have e2 := ss_sh_at hs hc hi
  have ein : vp_in (nI i) 6 := vp_in_nI (by omega) (by decide)
  refine br_f (nI_ge hi (by omega)) ⟨ein, pk_le (v i) 0 (fun hz => nm_r (nI_1 i) (k o (by rw [ho, ss_pick_z hz]))) (fun hz => ⟨ein, ?_⟩) e1 rfl (by omega) (by decide)⟩
  have hgi := hg i hi
  rw [e1, e2, nI_l (by omega), nI_l (by omega)]
  refine sx_dividend hr ⟨ein, sx_divisor hr (hg i hi) ?_⟩
  cases o with
  | none =>
    refine sx_isGreater (t' := 0) (b' := 1) (ss_tp_lt hvi) (ss_dv_lt (hg i hi)) (by decide) (by decide) (fun h1 => br_f (by decide) (nm_r (nI_1 i) (k (some i) (ss_pick_n hz ho.symm).symm))) (fun h0 => ?_)
    exfalso
    unfold ss_gt at h0
    rw [if_neg (fun z => absurd z.2 (by decide)), decide_eq_false_iff_not, Nat.zero_mul, Nat.mul_one] at h0
    apply h0
    unfold ss_tp
    by_cases e3 : r = 3
    · rw [if_pos e3]; exact Nat.mul_pos hz hz
    · rw [if_neg e3]; exact hz
  | some d =>
    have hd := ss_pick_lt i d ho.symm
    refine sx_isGreater (t' := ss_tp r (v d)) (b' := ss_dv r (g d)) (ss_tp_lt hvi) (ss_dv_lt (hg i hi)) (ss_tp_lt (hv d (by omega))) (ss_dv_lt (hg d (by omega))) (fun h1 => br_f (by decide) (nm_r (nI_1 i) (k (some i) ?_))) (fun h0 => br_t rfl (nm_r (nI_1 i) (k (some d) ?_)))
    · rw [← ss_gr_gt] at h1
      exact (ss_pick_1 hz ho.symm h1).symm
    · rw [← ss_gr_gt] at h0
      exact (ss_pick_2 hz ho.symm h0).symm
theorem sx_bq_polled_shares {post : SX → Prop} {c : Nat} {sC : Int32} {pA tA sA oA rA dA : Nat → Int32} {v : Nat → Nat} {r N : Nat} (hc : c ≤ 6) (hr : r ≤ 4) (hN : N ≤ 31) (h : ss_sh c pA v) (hv : ∀ i, i < c → v i ≤ 2999) (hs : ss_sh c sA (fun _ => 0)) (hp : ∀ sh, ss_sh c sh (ss_q r c v N) → post (nI c, sC, pA, tA, sh, oA, rA, dA)) : wpX_shareByQuotients__polled_shares post (nI c, sC, pA, tA, sA, oA, rA, dA) (nI r) (nI N) := by
  refine pk_loop (σ := Nat → Int32) (fun n i sh => wX_shareByQuotients__polled_shares_3 post (nI r) (nI N) (nI c) sC n (nI i) pA tA sh oA rA dA) (fun i sh => ss_sh c sh (ss_q r c v i)) N 0 sA (Nat.zero_le _) hs
    (fun n sh hsh => br_t (nI_le (Nat.le_refl N) (by omega)) (hp sh hsh))
    (fun n i sh hi hsh k => br_f (nI_ge hi (by omega)) (sx_gq_polled_shares hc hr h hv hsh (fun j _ => Nat.le_trans (ss_q_le i j) (by omega)) ?_))
  cases hq : ss_pick r v (ss_q r c v i) c with
  | none => exact br_t (by decide) (nm_r (nI_1 i) (k sh (by rw [ss_q_none hq]; exact hsh)))
  | some d =>
    have hd := (ss_pick_lt c d hq).1
    have ed : vp_in (nI d) 6 := vp_in_nI (by omega) (by decide)
    exact br_f (nI_pos (by omega)) ⟨ed, ed, nm_r (e' := upd sh d (nI (ss_q r c v i d + 1))) (by
      show upd sh (nI d).toNatClampNeg (sh (nI d).toNatClampNeg + 1) = _
      rw [ss_sh_at hsh hc hd, nI_clamp (by omega), nI_1]) (nm_r (nI_1 i) (k _ (ss_sh_up hsh (fun j _ => by
      rw [ss_q_some hq]
      show (if j = d then ss_q r c v i j + 1 else ss_q r c v i j) = _
      by_cases e : j = d
      · rw [if_pos e, if_pos e, e]
      · rw [if_neg e, if_neg e]))))⟩
theorem sx_gq_trial_shares {post : Int32 → Prop} {c : Nat} {sC : Int32} {pA tA sA oA rA dA : Nat → Int32} {v g : Nat → Nat} {r : Nat} (hc : c ≤ 6) (hr : r ≤ 4) (h : ss_sh c tA v) (hv : ∀ i, i < c → v i ≤ 2999) (hs : ss_sh c sA g) (hg : ∀ i, i < c → g i ≤ 31) (hp : post (ss_cd (-4) (ss_pick r v g c))) : wpX_greatestQuotient__trial_shares post (nI c, sC, pA, tA, sA, oA, rA, dA) (nI r) := by
  refine pk_loop (σ := Option Nat) (fun n i o => wX_greatestQuotient__trial_shares_13 post (nI r) (nI c) sC pA tA sA oA rA dA n (ss_cd (-4) o) (ss_tn r v o) (ss_bn r g o) (nI i)) (fun i o => o = ss_pick r v g i) c 0 none (Nat.zero_le _) rfl
    (fun n o ho => br_t (nI_le (Nat.le_refl c) (by omega)) (by rw [ho]; exact hp))
    (fun n i o hi ho k => ?_)
  have hvi := hv i hi
  have e1 := ss_sh_at h hc hi
  have e2 := ss_sh_at hs hc hi
  have ein : vp_in (nI i) 6 := vp_in_nI (by omega) (by decide)
  refine br_f (nI_ge hi (by omega)) ⟨ein, pk_le (v i) 0 (fun hz => nm_r (nI_1 i) (k o (by rw [ho, ss_pick_z hz]))) (fun hz => ⟨ein, ?_⟩) e1 rfl (by omega) (by decide)⟩
  have hgi := hg i hi
  rw [e1, e2, nI_l (by omega), nI_l (by omega)]
  refine sx_dividend hr ⟨ein, sx_divisor hr (hg i hi) ?_⟩
  cases o with
  | none =>
    refine sx_isGreater (t' := 0) (b' := 1) (ss_tp_lt hvi) (ss_dv_lt (hg i hi)) (by decide) (by decide) (fun h1 => br_f (by decide) (nm_r (nI_1 i) (k (some i) (ss_pick_n hz ho.symm).symm))) (fun h0 => ?_)
    exfalso
    unfold ss_gt at h0
    rw [if_neg (fun z => absurd z.2 (by decide)), decide_eq_false_iff_not, Nat.zero_mul, Nat.mul_one] at h0
    apply h0
    unfold ss_tp
    by_cases e3 : r = 3
    · rw [if_pos e3]; exact Nat.mul_pos hz hz
    · rw [if_neg e3]; exact hz
  | some d =>
    have hd := ss_pick_lt i d ho.symm
    refine sx_isGreater (t' := ss_tp r (v d)) (b' := ss_dv r (g d)) (ss_tp_lt hvi) (ss_dv_lt (hg i hi)) (ss_tp_lt (hv d (by omega))) (ss_dv_lt (hg d (by omega))) (fun h1 => br_f (by decide) (nm_r (nI_1 i) (k (some i) ?_))) (fun h0 => br_t rfl (nm_r (nI_1 i) (k (some d) ?_)))
    · rw [← ss_gr_gt] at h1
      exact (ss_pick_1 hz ho.symm h1).symm
    · rw [← ss_gr_gt] at h0
      exact (ss_pick_2 hz ho.symm h0).symm
theorem sx_bq_trial_shares {post : SX → Prop} {c : Nat} {sC : Int32} {pA tA sA oA rA dA : Nat → Int32} {v : Nat → Nat} {r N : Nat} (hc : c ≤ 6) (hr : r ≤ 4) (hN : N ≤ 31) (h : ss_sh c tA v) (hv : ∀ i, i < c → v i ≤ 2999) (hs : ss_sh c sA (fun _ => 0)) (hp : ∀ sh, ss_sh c sh (ss_q r c v N) → post (nI c, sC, pA, tA, sh, oA, rA, dA)) : wpX_shareByQuotients__trial_shares post (nI c, sC, pA, tA, sA, oA, rA, dA) (nI r) (nI N) := by
  refine pk_loop (σ := Nat → Int32) (fun n i sh => wX_shareByQuotients__trial_shares_3 post (nI r) (nI N) (nI c) sC n (nI i) pA tA sh oA rA dA) (fun i sh => ss_sh c sh (ss_q r c v i)) N 0 sA (Nat.zero_le _) hs
    (fun n sh hsh => br_t (nI_le (Nat.le_refl N) (by omega)) (hp sh hsh))
    (fun n i sh hi hsh k => br_f (nI_ge hi (by omega)) (sx_gq_trial_shares hc hr h hv hsh (fun j _ => Nat.le_trans (ss_q_le i j) (by omega)) ?_))
  cases hq : ss_pick r v (ss_q r c v i) c with
  | none => exact br_t (by decide) (nm_r (nI_1 i) (k sh (by rw [ss_q_none hq]; exact hsh)))
  | some d =>
    have hd := (ss_pick_lt c d hq).1
    have ed : vp_in (nI d) 6 := vp_in_nI (by omega) (by decide)
    exact br_f (nI_pos (by omega)) ⟨ed, ed, nm_r (e' := upd sh d (nI (ss_q r c v i d + 1))) (by
      show upd sh (nI d).toNatClampNeg (sh (nI d).toNatClampNeg + 1) = _
      rw [ss_sh_at hsh hc hd, nI_clamp (by omega), nI_1]) (nm_r (nI_1 i) (k _ (ss_sh_up hsh (fun j _ => by
      rw [ss_q_some hq]
      show (if j = d then ss_q r c v i j + 1 else ss_q r c v i j) = _
      by_cases e : j = d
      · rw [if_pos e, if_pos e, e]
      · rw [if_neg e, if_neg e]))))⟩
theorem sx_gq_polled_otherShares {post : Int32 → Prop} {c : Nat} {sC : Int32} {pA tA sA oA rA dA : Nat → Int32} {v g : Nat → Nat} {r : Nat} (hc : c ≤ 6) (hr : r ≤ 4) (h : ss_sh c pA v) (hv : ∀ i, i < c → v i ≤ 2999) (hs : ss_sh c oA g) (hg : ∀ i, i < c → g i ≤ 31) (hp : post (ss_cd (-4) (ss_pick r v g c))) : wpX_greatestQuotient__polled_otherShares post (nI c, sC, pA, tA, sA, oA, rA, dA) (nI r) := by
  refine pk_loop (σ := Option Nat) (fun n i o => wX_greatestQuotient__polled_otherShares_13 post (nI r) (nI c) sC pA tA sA oA rA dA n (ss_cd (-4) o) (ss_tn r v o) (ss_bn r g o) (nI i)) (fun i o => o = ss_pick r v g i) c 0 none (Nat.zero_le _) rfl
    (fun n o ho => br_t (nI_le (Nat.le_refl c) (by omega)) (by rw [ho]; exact hp))
    (fun n i o hi ho k => ?_)
  have hvi := hv i hi
  have e1 := ss_sh_at h hc hi
  have e2 := ss_sh_at hs hc hi
  have ein : vp_in (nI i) 6 := vp_in_nI (by omega) (by decide)
  refine br_f (nI_ge hi (by omega)) ⟨ein, pk_le (v i) 0 (fun hz => nm_r (nI_1 i) (k o (by rw [ho, ss_pick_z hz]))) (fun hz => ⟨ein, ?_⟩) e1 rfl (by omega) (by decide)⟩
  have hgi := hg i hi
  rw [e1, e2, nI_l (by omega), nI_l (by omega)]
  refine sx_dividend hr ⟨ein, sx_divisor hr (hg i hi) ?_⟩
  cases o with
  | none =>
    refine sx_isGreater (t' := 0) (b' := 1) (ss_tp_lt hvi) (ss_dv_lt (hg i hi)) (by decide) (by decide) (fun h1 => br_f (by decide) (nm_r (nI_1 i) (k (some i) (ss_pick_n hz ho.symm).symm))) (fun h0 => ?_)
    exfalso
    unfold ss_gt at h0
    rw [if_neg (fun z => absurd z.2 (by decide)), decide_eq_false_iff_not, Nat.zero_mul, Nat.mul_one] at h0
    apply h0
    unfold ss_tp
    by_cases e3 : r = 3
    · rw [if_pos e3]; exact Nat.mul_pos hz hz
    · rw [if_neg e3]; exact hz
  | some d =>
    have hd := ss_pick_lt i d ho.symm
    refine sx_isGreater (t' := ss_tp r (v d)) (b' := ss_dv r (g d)) (ss_tp_lt hvi) (ss_dv_lt (hg i hi)) (ss_tp_lt (hv d (by omega))) (ss_dv_lt (hg d (by omega))) (fun h1 => br_f (by decide) (nm_r (nI_1 i) (k (some i) ?_))) (fun h0 => br_t rfl (nm_r (nI_1 i) (k (some d) ?_)))
    · rw [← ss_gr_gt] at h1
      exact (ss_pick_1 hz ho.symm h1).symm
    · rw [← ss_gr_gt] at h0
      exact (ss_pick_2 hz ho.symm h0).symm
theorem sx_bq_polled_otherShares {post : SX → Prop} {c : Nat} {sC : Int32} {pA tA sA oA rA dA : Nat → Int32} {v : Nat → Nat} {r N : Nat} (hc : c ≤ 6) (hr : r ≤ 4) (hN : N ≤ 31) (h : ss_sh c pA v) (hv : ∀ i, i < c → v i ≤ 2999) (hs : ss_sh c oA (fun _ => 0)) (hp : ∀ sh, ss_sh c sh (ss_q r c v N) → post (nI c, sC, pA, tA, sA, sh, rA, dA)) : wpX_shareByQuotients__polled_otherShares post (nI c, sC, pA, tA, sA, oA, rA, dA) (nI r) (nI N) := by
  refine pk_loop (σ := Nat → Int32) (fun n i sh => wX_shareByQuotients__polled_otherShares_3 post (nI r) (nI N) (nI c) sC n (nI i) pA tA sA sh rA dA) (fun i sh => ss_sh c sh (ss_q r c v i)) N 0 oA (Nat.zero_le _) hs
    (fun n sh hsh => br_t (nI_le (Nat.le_refl N) (by omega)) (hp sh hsh))
    (fun n i sh hi hsh k => br_f (nI_ge hi (by omega)) (sx_gq_polled_otherShares hc hr h hv hsh (fun j _ => Nat.le_trans (ss_q_le i j) (by omega)) ?_))
  cases hq : ss_pick r v (ss_q r c v i) c with
  | none => exact br_t (by decide) (nm_r (nI_1 i) (k sh (by rw [ss_q_none hq]; exact hsh)))
  | some d =>
    have hd := (ss_pick_lt c d hq).1
    have ed : vp_in (nI d) 6 := vp_in_nI (by omega) (by decide)
    exact br_f (nI_pos (by omega)) ⟨ed, ed, nm_r (e' := upd sh d (nI (ss_q r c v i d + 1))) (by
      show upd sh (nI d).toNatClampNeg (sh (nI d).toNatClampNeg + 1) = _
      rw [ss_sh_at hsh hc hd, nI_clamp (by omega), nI_1]) (nm_r (nI_1 i) (k _ (ss_sh_up hsh (fun j _ => by
      rw [ss_q_some hq]
      show (if j = d then ss_q r c v i j + 1 else ss_q r c v i j) = _
      by_cases e : j = d
      · rw [if_pos e, if_pos e, e]
      · rw [if_neg e, if_neg e]))))⟩
