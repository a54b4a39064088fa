/-! the place of a list by its rest -/
def ss_i01 (z : Bool) : Int32 := if z = true then 1 else 0
def ss_n01 (z : Bool) : Nat := if z = true then 1 else 0
theorem sx_ca57 {post : Int32 → Prop} {J : Int32 → Int32 → Prop} {x1 : Int32} {c : Nat} {sC : Int32} {pA tA sA oA rA dA : Nat → Int32} {v : Nat → Nat} {x j : Nat} (z : Bool) (hc : c ≤ 6) (h : ss_sh c pA v) (hj : j < c) (hv : v j ≤ 2999) (hJ : J (nI (x + ss_n01 (ss_A v j && z))) (nI (j + 1))) : wX_countAhead__polled_57 post J x1 (nI x) (nI j) (ss_i01 z) (nI c) sC pA tA sA oA rA dA := by
  refine ⟨vp_in_nI (by omega) (by decide), pk_le (v j) 0 (fun hz => nm_r (nI_1 j) ?_) (fun hz => ?_) (ss_sh_at h hc hj) rfl (by omega) (by decide)⟩
  · rw [show ss_A v j = false from decide_eq_false (by omega)] at hJ
    exact hJ
  · rw [show ss_A v j = true from decide_eq_true hz] at hJ
    cases z with
    | false => exact br_t rfl (nm_r (nI_1 j) hJ)
    | true => exact br_f (by decide) (nm_r (nI_1 x) (nm_r (nI_1 j) hJ))
theorem sx_ca {post : Int32 → Prop} {c : Nat} {sC : Int32} {pA tA sA oA rA dA : Nat → Int32} {v q : Nat → Nat} {i : Nat} (hc : c ≤ 6) (h : ss_sh c pA v) (hv : ∀ i, i < c → v i ≤ 2999) (hq : ss_sh c rA q) (hqb : ∀ i, i < c → q i < 2 ^ 30) (hi : i < c) (hp : post (nI (ss_pl (ss_A v) q c i))) : wpX_countAhead__polled post (nI c, sC, pA, tA, sA, oA, rA, dA) (nI i) := by
  refine ss_loop (fun n j => wX_countAhead__polled_5 post (nI i) (nI c) sC pA tA sA oA rA dA n (nI (ss_cnt (fun k => ss_A v k && ss_ah q k i) j)) (nI j)) c 0 (Nat.zero_le _)
    (fun n => br_t (nI_le (Nat.le_refl c) (by omega)) hp)
    (fun n j _ hj ih => ?_)
  have ei : vp_in (nI i) 6 := vp_in_nI (by omega) (by decide)
  have ej : vp_in (nI j) 6 := vp_in_nI (by omega) (by decide)
  have qi := hqb i hi
  have qj := hqb j hj
  have h57 : ∀ z, ss_ah q j i = z → wX_countAhead__polled_57 post (wX_countAhead__polled_5 post (nI i) (nI c) sC pA tA sA oA rA dA n) (nI i) (nI (ss_cnt (fun k => ss_A v k && ss_ah q k i) j)) (nI j) (ss_i01 z) (nI c) sC pA tA sA oA rA dA := fun z hz => sx_ca57 z hc h hj (hv j hj) (by rw [← hz]; exact ih)
  refine br_f (nI_ge hj (by omega)) ⟨ej, ei, pk_lt (q i) (q j) (fun h1 => h57 true (ss_ah_iff.mpr (Or.inl h1))) (fun h1 => ⟨ej, ei, pk_eq (q j) (q i) (fun h2 => pk_le i j (fun h3 => h57 false ?_) (fun h3 => h57 true (ss_ah_iff.mpr (Or.inr ⟨h2, h3⟩))) rfl rfl (by omega) (by omega)) (fun h2 => h57 false ?_) (ss_sh_at hq hc hj) (ss_sh_at hq hc hi) (by omega) (by omega)⟩) (ss_sh_at hq hc hi) (ss_sh_at hq hc hj) (by omega) (by omega)⟩
  · exact decide_eq_false (by omega)
  · exact decide_eq_false (by omega)
theorem sx_obr {post : SX → Prop} {c : Nat} {sC : Int32} {pA tA sA oA rA dA : Nat → Int32} {v q : Nat → Nat} (hc : c ≤ 6) (h : ss_sh c pA v) (hv : ∀ i, i < c → v i ≤ 2999) (hq : ss_sh c rA q) (hqb : ∀ i, i < c → q i < 2 ^ 30) (hp : ∀ od, (∀ i, i < c → 0 < v i → od (ss_pl (ss_A v) q c i) = nI i) → post (nI c, sC, pA, tA, sA, oA, rA, od)) : wpX_orderByRests__polled post (nI c, sC, pA, tA, sA, oA, rA, dA) := by
  refine pk_loop (σ := Nat → Int32) (fun n i od => wX_orderByRests__polled_2 post (nI c) sC n (nI i) pA tA sA oA rA od) (fun i od => ∀ j, j < i → 0 < v j → od (ss_pl (ss_A v) q c j) = nI j) c 0 dA (Nat.zero_le _) (fun j hj => absurd hj (Nat.not_lt_zero j))
    (fun n od hod => br_t (nI_le (Nat.le_refl c) (by omega)) (hp od hod))
    (fun n i od hi hod k => ?_)
  have hvi := hv i hi
  refine br_f (nI_ge hi (by omega)) ⟨vp_in_nI (by omega) (by decide), pk_le (v i) 0 (fun hz => nm_r (nI_1 i) (k od (fun j hj hvj => ?_))) (fun hz => sx_ca hc h hv hq hqb hi ?_) (ss_sh_at h hc hi) rfl (by omega) (by decide)⟩
  · by_cases e : j = i
    · subst e; omega
    · exact hod j (by omega) hvj
  · have h1 := ss_pl_m (A := ss_A v) (r := q) hi (decide_eq_true hz)
    have h2 := ss_cnt_le (ss_A v) c
    refine ⟨vp_in_nI (by omega) (by decide), nm_r (e' := upd od (ss_pl (ss_A v) q c i) (nI i)) (by rw [nI_clamp (by omega)]) (nm_r (nI_1 i) (k _ (fun j hj hvj => ?_)))⟩
    by_cases e : j = i
    · rw [e]; exact pk_us
    · rw [pk_un (fun z => e (ss_pl_inj (by omega) hi (decide_eq_true hvj) (decide_eq_true hz) z))]
      exact hod j (by omega) hvj
theorem sx_gio_shares {post : SX → Prop} {c : Nat} {sC : Int32} {pA tA sA oA rA dA : Nat → Int32} {v q base : Nat → Nat} {L : Nat} (hc : c ≤ 6) (hL : L < 2 ^ 30) (hm : 0 < ss_cnt (ss_A v) c) (hod : ∀ i, i < c → 0 < v i → dA (ss_pl (ss_A v) q c i) = nI i) (hs : ss_sh c sA base) (hp : ∀ sh, ss_sh c sh (ss_rv (ss_A v) q c (ss_cnt (ss_A v) c) base L) → post (nI c, sC, pA, tA, sh, oA, rA, dA)) : wpX_giveInOrder__shares post (nI c, sC, pA, tA, sA, oA, rA, dA) (nI L) (nI (ss_cnt (ss_A v) c)) := by
  have hmc := ss_cnt_le (ss_A v) c
  refine br_t (nI_lt (a := 0) hm (by omega)) (pk_loop (σ := Nat → Int32) (fun n s sh => wX_giveInOrder__shares_8 post (nI L) (nI (ss_cnt (ss_A v) c)) (nI c) sC n (nI s) pA tA sh oA rA dA) (fun s sh => ss_sh c sh (ss_rv (ss_A v) q c (ss_cnt (ss_A v) c) base s)) L 0 sA (Nat.zero_le _) hs
    (fun n sh hsh => br_t (nI_le (Nat.le_refl L) (by omega)) (hp sh hsh))
    (fun n s sh hs hsh k => ?_))
  have hlt := Nat.mod_lt s hm
  obtain ⟨b, _, hb, Ab, hpl⟩ := ss_scan (A := ss_A v) (r := q) hlt
  have vb : 0 < v b := of_decide_eq_true Ab
  have er : nI s - nI s / nI (ss_cnt (ss_A v) c) * nI (ss_cnt (ss_A v) c) = nI (s % ss_cnt (ss_A v) c) := pk_rem (by omega) hm (by omega)
  have eo : dA (nI s - nI s / nI (ss_cnt (ss_A v) c) * nI (ss_cnt (ss_A v) c)).toNatClampNeg = nI b := by
    rw [er, nI_clamp (by omega), ← hpl]; exact hod b hb vb
  have eb : vp_in (nI b) 6 := vp_in_nI (by omega) (by decide)
  refine br_f (nI_ge hs (by omega)) ⟨nI_ne0 hm (by omega), by rw [er]; exact vp_in_nI (by omega) (by decide), by rw [eo]; exact eb, by rw [eo]; exact eb, nm_r (e' := upd sh b (nI (ss_rv (ss_A v) q c (ss_cnt (ss_A v) c) base s b + 1))) (by rw [eo, ss_sh_at hsh hc hb, nI_clamp (by omega), nI_1]) (nm_r (nI_1 s) (k _ (ss_sh_up hsh (fun i hi => ?_))))⟩
  rw [ss_rv_step hb Ab hpl hi]
  by_cases e : i = b
  · rw [if_pos e, if_pos e, e]
  · rw [if_neg e, if_neg e]
theorem sx_q52_shares {post : SX → Prop} {c : Nat} {sC : Int32} {pA tA sA oA rA dA : Nat → Int32} {v : Nat → Nat} {r N : Nat} (hc : c ≤ 6) (hN : N ≤ 31) (hV : 0 < ss_sum v c) (h : ss_sh c pA v) (hv : ∀ i, i < c → v i ≤ 2999) (hp : ∀ sh rs od, ss_sh c sh (ss_R r c v N) → post (nI c, sC, pA, tA, sh, oA, rs, od)) : ∃ n, wX_shareByQuota__polled_shares_52 post (nI N) (nI (ss_bt r N)) (nI (ss_tq r (ss_sum v c) N)) (nI c) sC n 0 pA tA sA oA rA dA := by
  have hq := ss_tq_pos (rule := r) (n := N) hV
  have hbt : ss_bt r N ≤ 31 := by
    unfold ss_bt
    by_cases e : r = 5
    · rw [if_pos e]; exact hN
    · rw [if_neg e]; omega
  have hsv := ss_sum_le (f := v) (c := c) (B := 2999) hv
  have hV2 : ss_sum v c ≤ 17994 := Nat.le_trans hsv (Nat.mul_le_mul hc (Nat.le_refl 2999))
  have hqb : ss_tq r (ss_sum v c) N < 2 ^ 30 := by
    unfold ss_tq
    by_cases e : r = 5
    · rw [if_pos e]; omega
    · rw [if_neg e]
      have := Nat.div_le_self (ss_sum v c) (N + 1)
      omega
  have hreb : ∀ i, i < c → ss_re r c v N i < 2 ^ 30 := fun i hi => by
    have : ss_re r c v N i < ss_tq r (ss_sum v c) N := Nat.mod_lt _ hq
    omega
  have hba := ss_ba_sum (rule := r) (c := c) (n := N) (v := v) hV
  have hm : 0 < ss_cnt (ss_A v) c := by
    obtain ⟨i, hi, hvi⟩ := ss_sum_pos c hV
    exact ss_cnt_pos hi (decide_eq_true hvi)
  refine pk_loop (σ := (Nat → Int32) × (Nat → Int32)) (fun n i s => wX_shareByQuota__polled_shares_52 post (nI N) (nI (ss_bt r N)) (nI (ss_tq r (ss_sum v c) N)) (nI c) sC n (nI i) pA tA s.1 oA s.2 dA) (fun i s => ss_sh i s.1 (ss_ba r c v N) ∧ ss_sh i s.2 (ss_re r c v N)) c 0 (sA, rA) (Nat.zero_le _) ⟨ss_sh_0, ss_sh_0⟩
    (fun n s hs => br_t (nI_le (Nat.le_refl c) (by omega)) (sx_obr hc h hv hs.2 hreb (fun od hod => sx_sum_shares hc hs.1 (nm_r (pk_sub hba) (sx_cnt_polled hc h hv (sx_gio_shares hc (by omega) hm hod hs.1 (fun sh hsh => hp sh s.2 od hsh)))))))
    (fun n i s hi hs k => ?_)
  have ei : vp_in (nI i) 6 := vp_in_nI (by omega) (by decide)
  have hx : v i * ss_bt r N ≤ 2999 * 31 := Nat.mul_le_mul (hv i hi) hbt
  have hne : ¬ nI (ss_tq r (ss_sum v c) N) = 0 := nI_ne0 hq (by omega)
  exact br_f (nI_ge hi (by omega)) ⟨ei, hne, ei, nm_r (e' := upd s.1 i (nI (ss_ba r c v N i))) (by
      rw [ss_sh_at h hc hi, nI_clamp (by omega), pk_mul, pk_div (by omega) hq (by omega)]; rfl) ⟨ei, hne, ei, nm_r (e' := upd s.2 i (nI (ss_re r c v N i))) (by
      rw [ss_sh_at h hc hi, nI_clamp (by omega), pk_mul, pk_rem (by omega) hq (by omega)]; rfl) (nm_r (nI_1 i) (k (upd s.1 i (nI (ss_ba r c v N i)), upd s.2 i (nI (ss_re r c v N i))) ⟨ss_sh_s hs.1, ss_sh_s hs.2⟩))⟩⟩
theorem sx_quota_shares {post : SX → Prop} {c : Nat} {sC : Int32} {pA tA sA oA rA dA : Nat → Int32} {v : Nat → Nat} {r N : Nat} (hc : c ≤ 6) (hr : r ≤ 6) (h5 : 5 ≤ r) (hN : N ≤ 31) (h : ss_sh c pA v) (hv : ∀ i, i < c → v i ≤ 2999) (hs : ss_sh c sA (fun _ => 0)) (hp : ∀ sh rs od, ss_sh c sh (ss_S r c v N) → post (nI c, sC, pA, tA, sh, oA, rs, od)) : wpX_shareByQuota__polled_shares post (nI c, sC, pA, tA, sA, oA, rA, dA) (nI r) (nI N) := by
  have hsv := ss_sum_le (f := v) (c := c) (B := 2999) hv
  have hV2 : ss_sum v c ≤ 17994 := Nat.le_trans hsv (Nat.mul_le_mul hc (Nat.le_refl 2999))
  refine sx_sum_polled hc h (pk_le (ss_sum v c) 0 (fun hz => hp sA rA dA (ss_sh_eq hs (fun i _ => ss_S_z (Or.inl (by omega)) i))) (fun hV => pk_lt 0 N (fun hn => ?_) (fun hn => hp sA rA dA (ss_sh_eq hs (fun i _ => ss_S_z (Or.inr (by omega)) i))) rfl rfl (by decide) (by omega)) rfl rfl (by omega) (by decide))
  have h52 := sx_q52_shares (post := post) (sC := sC) (tA := tA) (sA := sA) (oA := oA) (rA := rA) (dA := dA) (r := r) hc hN hV h hv (fun sh rs od hsh => hp sh rs od (by rw [ss_S_R h5 hV hn]; exact hsh))
  refine pk_eq r 5 (fun e => ?_) (fun e => ?_) rfl rfl (by omega) (by decide)
  · have e1 : ss_bt r N = N := if_pos e
    have e2 : ss_tq r (ss_sum v c) N = ss_sum v c := if_pos e
    rw [e1, e2] at h52
    exact br_t (by rw [e]; rfl) h52
  · have e1 : ss_bt r N = 1 := if_neg e
    have e2 : ss_tq r (ss_sum v c) N = ss_sum v c / (N + 1) + 1 := if_neg e
    rw [e1, e2] at h52
    refine br_f (fun z => e ((nI_eq (b := 5) (by omega) (by decide)).mp z)) ⟨?_, nm_r (e' := nI (ss_sum v c / (N + 1) + 1)) ?_ h52⟩
    · rw [nI_1]; exact nI_ne0 (by omega) (by omega)
    · rw [nI_1, pk_div (by omega) (by omega) (by omega), nI_1]
theorem sx_gio_otherShares {post : SX → Prop} {c : Nat} {sC : Int32} {pA tA sA oA rA dA : Nat → Int32} {v q base : Nat → Nat} {L : Nat} (hc : c ≤ 6) (hL : L < 2 ^ 30) (hm : 0 < ss_cnt (ss_A v) c) (hod : ∀ i, i < c → 0 < v i → dA (ss_pl (ss_A v) q c i) = nI i) (hs : ss_sh c oA base) (hp : ∀ sh, ss_sh c sh (ss_rv (ss_A v) q c (ss_cnt (ss_A v) c) base L) → post (nI c, sC, pA, tA, sA, sh, rA, dA)) : wpX_giveInOrder__otherShares post (nI c, sC, pA, tA, sA, oA, rA, dA) (nI L) (nI (ss_cnt (ss_A v) c)) := by
  have hmc := ss_cnt_le (ss_A v) c
  refine br_t (nI_lt (a := 0) hm (by omega)) (pk_loop (σ := Nat → Int32) (fun n s sh => wX_giveInOrder__otherShares_8 post (nI L) (nI (ss_cnt (ss_A v) c)) (nI c) sC n (nI s) pA tA sA sh rA dA) (fun s sh => ss_sh c sh (ss_rv (ss_A v) q c (ss_cnt (ss_A v) c) base s)) L 0 oA (Nat.zero_le _) hs
    (fun n sh hsh => br_t (nI_le (Nat.le_refl L) (by omega)) (hp sh hsh))
    (fun n s sh hs hsh k => ?_))
  have hlt := Nat.mod_lt s hm
  obtain ⟨b, _, hb, Ab, hpl⟩ := ss_scan (A := ss_A v) (r := q) hlt
  have vb : 0 < v b := of_decide_eq_true Ab
  have er : nI s - nI s / nI (ss_cnt (ss_A v) c) * nI (ss_cnt (ss_A v) c) = nI (s % ss_cnt (ss_A v) c) := pk_rem (by omega) hm (by omega)
  have eo : dA (nI s - nI s / nI (ss_cnt (ss_A v) c) * nI (ss_cnt (ss_A v) c)).toNatClampNeg = nI b := by
    rw [er, nI_clamp (by omega), ← hpl]; exact hod b hb vb
  have eb : vp_in (nI b) 6 := vp_in_nI (by omega) (by decide)
  refine br_f (nI_ge hs (by omega)) ⟨nI_ne0 hm (by omega), by rw [er]; exact vp_in_nI (by omega) (by decide), by rw [eo]; exact eb, by rw [eo]; exact eb, nm_r (e' := upd sh b (nI (ss_rv (ss_A v) q c (ss_cnt (ss_A v) c) base s b + 1))) (by rw [eo, ss_sh_at hsh hc hb, nI_clamp (by omega), nI_1]) (nm_r (nI_1 s) (k _ (ss_sh_up hsh (fun i hi => ?_))))⟩
  rw [ss_rv_step hb Ab hpl hi]
  by_cases e : i = b
  · rw [if_pos e, if_pos e, e]
  · rw [if_neg e, if_neg e]
theorem sx_q52_otherShares {post : SX → Prop} {c : Nat} {sC : Int32} {pA tA sA oA rA dA : Nat → Int32} {v : Nat → Nat} {r N : Nat} (hc : c ≤ 6) (hN : N ≤ 31) (hV : 0 < ss_sum v c) (h : ss_sh c pA v) (hv : ∀ i, i < c → v i ≤ 2999) (hp : ∀ sh rs od, ss_sh c sh (ss_R r c v N) → post (nI c, sC, pA, tA, sA, sh, rs, od)) : ∃ n, wX_shareByQuota__polled_otherShares_52 post (nI N) (nI (ss_bt r N)) (nI (ss_tq r (ss_sum v c) N)) (nI c) sC n 0 pA tA sA oA rA dA := by
  have hq := ss_tq_pos (rule := r) (n := N) hV
  have hbt : ss_bt r N ≤ 31 := by
    unfold ss_bt
    by_cases e : r = 5
    · rw [if_pos e]; exact hN
    · rw [if_neg e]; omega
  have hsv := ss_sum_le (f := v) (c := c) (B := 2999) hv
  have hV2 : ss_sum v c ≤ 17994 := Nat.le_trans hsv (Nat.mul_le_mul hc (Nat.le_refl 2999))
  have hqb : ss_tq r (ss_sum v c) N < 2 ^ 30 := by
    unfold ss_tq
    by_cases e : r = 5
    · rw [if_pos e]; omega
    · rw [if_neg e]
      have := Nat.div_le_self (ss_sum v c) (N + 1)
      omega
  have hreb : ∀ i, i < c → ss_re r c v N i < 2 ^ 30 := fun i hi => by
    have : ss_re r c v N i < ss_tq r (ss_sum v c) N := Nat.mod_lt _ hq
    omega
  have hba := ss_ba_sum (rule := r) (c := c) (n := N) (v := v) hV
  have hm : 0 < ss_cnt (ss_A v) c := by
    obtain ⟨i, hi, hvi⟩ := ss_sum_pos c hV
    exact ss_cnt_pos hi (decide_eq_true hvi)
  refine pk_loop (σ := (Nat → Int32) × (Nat → Int32)) (fun n i s => wX_shareByQuota__polled_otherShares_52 post (nI N) (nI (ss_bt r N)) (nI (ss_tq r (ss_sum v c) N)) (nI c) sC n (nI i) pA tA sA s.1 s.2 dA) (fun i s => ss_sh i s.1 (ss_ba r c v N) ∧ ss_sh i s.2 (ss_re r c v N)) c 0 (oA, rA) (Nat.zero_le _) ⟨ss_sh_0, ss_sh_0⟩
    (fun n s hs => br_t (nI_le (Nat.le_refl c) (by omega)) (sx_obr hc h hv hs.2 hreb (fun od hod => sx_sum_otherShares hc hs.1 (nm_r (pk_sub hba) (sx_cnt_polled hc h hv (sx_gio_otherShares hc (by omega) hm hod hs.1 (fun sh hsh => hp sh s.2 od hsh)))))))
    (fun n i s hi hs k => ?_)
  have ei : vp_in (nI i) 6 := vp_in_nI (by omega) (by decide)
  have hx : v i * ss_bt r N ≤ 2999 * 31 := Nat.mul_le_mul (hv i hi) hbt
  have hne : ¬ nI (ss_tq r (ss_sum v c) N) = 0 := nI_ne0 hq (by omega)
  exact br_f (nI_ge hi (by omega)) ⟨ei, hne, ei, nm_r (e' := upd s.1 i (nI (ss_ba r c v N i))) (by
      rw [ss_sh_at h hc hi, nI_clamp (by omega), pk_mul, pk_div (by omega) hq (by omega)]; rfl) ⟨ei, hne, ei, nm_r (e' := upd s.2 i (nI (ss_re r c v N i))) (by
      rw [ss_sh_at h hc hi, nI_clamp (by omega), pk_mul, pk_rem (by omega) hq (by omega)]; rfl) (nm_r (nI_1 i) (k (upd s.1 i (nI (ss_ba r c v N i)), upd s.2 i (nI (ss_re r c v N i))) ⟨ss_sh_s hs.1, ss_sh_s hs.2⟩))⟩⟩
theorem sx_quota_otherShares {post : SX → Prop} {c : Nat} {sC : Int32} {pA tA sA oA rA dA : Nat → Int32} {v : Nat → Nat} {r N : Nat} (hc : c ≤ 6) (hr : r ≤ 6) (h5 : 5 ≤ r) (hN : N ≤ 31) (h : ss_sh c pA v) (hv : ∀ i, i < c → v i ≤ 2999) (hs : ss_sh c oA (fun _ => 0)) (hp : ∀ sh rs od, ss_sh c sh (ss_S r c v N) → post (nI c, sC, pA, tA, sA, sh, rs, od)) : wpX_shareByQuota__polled_otherShares post (nI c, sC, pA, tA, sA, oA, rA, dA) (nI r) (nI N) := by
  have hsv := ss_sum_le (f := v) (c := c) (B := 2999) hv
  have hV2 : ss_sum v c ≤ 17994 := Nat.le_trans hsv (Nat.mul_le_mul hc (Nat.le_refl 2999))
  refine sx_sum_polled hc h (pk_le (ss_sum v c) 0 (fun hz => hp oA rA dA (ss_sh_eq hs (fun i _ => ss_S_z (Or.inl (by omega)) i))) (fun hV => pk_lt 0 N (fun hn => ?_) (fun hn => hp oA rA dA (ss_sh_eq hs (fun i _ => ss_S_z (Or.inr (by omega)) i))) rfl rfl (by decide) (by omega)) rfl rfl (by omega) (by decide))
  have h52 := sx_q52_otherShares (post := post) (sC := sC) (tA := tA) (sA := sA) (oA := oA) (rA := rA) (dA := dA) (r := r) hc hN hV h hv (fun sh rs od hsh => hp sh rs od (by rw [ss_S_R h5 hV hn]; exact hsh))
  refine pk_eq r 5 (fun e => ?_) (fun e => ?_) rfl rfl (by omega) (by decide)
  · have e1 : ss_bt r N = N := if_pos e
    have e2 : ss_tq r (ss_sum v c) N = ss_sum v c := if_pos e
    rw [e1, e2] at h52
    exact br_t (by rw [e]; rfl) h52
  · have e1 : ss_bt r N = 1 := if_neg e
    have e2 : ss_tq r (ss_sum v c) N = ss_sum v c / (N + 1) + 1 := if_neg e
    rw [e1, e2] at h52
    refine br_f (fun z => e ((nI_eq (b := 5) (by omega) (by decide)).mp z)) ⟨?_, nm_r (e' := nI (ss_sum v c / (N + 1) + 1)) ?_ h52⟩
    · rw [nI_1]; exact nI_ne0 (by omega) (by omega)
    · rw [nI_1, pk_div (by omega) (by omega) (by omega), nI_1]
