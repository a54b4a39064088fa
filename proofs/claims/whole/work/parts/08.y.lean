/-! the reference's sharing -/
theorem sy_votes {post : Int32 → Prop} {c : Nat} {sC : Int32} {vA sA kA : Nat → Int32} {v : Nat → Nat} (hc : c ≤ 6) (h : ss_sh c vA v) (hp : post (nI (ss_sum v c))) : wpY_votes post (nI c, sC, vA, sA, kA) :=
  ss_loop (fun n i => wY_votes_4 post (nI c) sC vA sA kA n (nI (ss_sum v i)) (nI i)) c 0 (Nat.zero_le _)
    (fun n => br_t (nI_le (Nat.le_refl c) (by omega)) hp)
    (fun n i _ hi ih => br_f (nI_ge hi (by omega)) ⟨vp_in_nI (by omega) (by decide), nm_r (e' := nI (ss_sum v (i + 1))) (by rw [ss_sh_at h hc hi, nI_add]; rfl) (nm_r (nI_1 i) ih)⟩)
theorem sy_divisor {post : Int64 → Prop} {c : Nat} {sC : Int32} {vA sA kA : Nat → Int32} {r x : Nat} (hr : r ≤ 4) (hx : x ≤ 31) (hp : post (lN (ss_dv r x))) : wpY_divisor post (nI c, sC, vA, sA, kA) (nI r) (nI x) := by
  unfold ss_dv at hp
  refine pk_eq r 0 (fun e0 => ?_) (fun e0 => pk_eq r 1 (fun e1 => ?_) (fun e1 => pk_eq r 2 (fun e2 => pk_eq x 0 (fun ex => ?_) (fun ex => ?_) rfl rfl (by omega) (by decide)) (fun e2 => pk_eq r 3 (fun e3 => ?_) (fun e3 => ?_) rfl rfl (by omega) (by decide)) rfl rfl (by omega) (by decide)) rfl rfl (by omega) (by decide)) rfl rfl (by omega) (by decide)
  · rw [if_pos e0] at hp
    rw [nI_1, nI_l (by omega)]; exact hp
  · rw [if_neg e0, if_pos e1] at hp
    have e5 : ((2 : Int32) * nI x + 1).toInt64 = lN (2 * x + 1) := by
      show (nI 2 * nI x + 1).toInt64 = _
      rw [pk_mul, nI_1, nI_l (by omega)]
    rw [e5]; exact hp
  · rw [if_neg e0, if_neg e1, if_pos e2, if_pos ex] at hp; exact hp
  · rw [if_neg e0, if_neg e1, if_pos e2, if_neg ex] at hp
    have e5 : ((10 : Int32) * nI x + 5).toInt64 = lN (10 * x + 5) := by
      show (nI 10 * nI x + nI 5).toInt64 = _
      rw [pk_mul, nI_add, nI_l (by omega)]
    rw [e5]; exact hp
  · rw [if_neg e0, if_neg e1, if_neg e2, if_pos e3] at hp
    have hb : x * (x + 1) ≤ 31 * 32 := Nat.mul_le_mul hx (by omega)
    rw [nI_1, pk_mul, nI_l (by omega)]; exact hp
  · rw [if_neg e0, if_neg e1, if_neg e2, if_neg e3] at hp
    rw [nI_l (by omega)]; exact hp
theorem sy_worth {post : Int64 → Prop} {c : Nat} {sC : Int32} {vA sA kA : Nat → Int32} {v g : Nat → Nat} {r i : Nat} (hc : c ≤ 6) (hr : r ≤ 4) (h : ss_sh c vA v) (hv : ∀ i, i < c → v i ≤ 2999) (hs : ss_sh c sA g) (hg : ∀ i, i < c → g i ≤ 31) (hi : i < c) (hp : post (lN (ss_wt r (v i) (g i)))) : wpY_worth post (nI c, sC, vA, sA, kA) (nI r) (nI i) := by
  have hvi := hv i hi
  have hgi := hg i hi
  have ei : vp_in (nI i) 6 := vp_in_nI (by omega) (by decide)
  have ev := ss_sh_at h hc hi
  have e6 : (vA (nI i).toNatClampNeg).toInt64 = lN (v i) := by rw [ev, nI_l (by omega)]
  unfold ss_wt at hp
  refine pk_eq r 3 (fun e => ⟨ei, pk_le (g i) 0 (fun hz => ⟨ei, ?_⟩) (fun hz => ⟨ei, ei, ?_⟩) (ss_sh_at hs hc hi) rfl (by omega) (by decide)⟩) (fun e => ⟨ei, ?_⟩) rfl rfl (by omega) (by decide)
  · rw [if_neg (by omega)] at hp
    rw [e6]; exact hp
  · rw [if_pos ⟨e, hz⟩] at hp
    rw [e6, lN_mul]; exact hp
  · rw [if_neg (fun z => e z.1)] at hp
    rw [e6]; exact hp
theorem sy_g61 {post : Int32 → Prop} {c : Nat} {sC : Int32} {vA sA kA : Nat → Int32} {v g : Nat → Nat} {r i b : Nat} (hc : c ≤ 6) (hr : r ≤ 4) (h : ss_sh c vA v) (hv : ∀ i, i < c → v i ≤ 2999) (hs : ss_sh c sA g) (hg : ∀ i, i < c → g i ≤ 31) (hi : i < c) (hb : b < c) (hn : ¬ (ss_dv r (g i) = 0 ∧ ss_dv r (g b) = 0)) (h1 : ss_gr r (v i) (g i) (v b) (g b) = true → post 1) (h0 : ss_gr r (v i) (g i) (v b) (g b) = false → post 0) : wY_isGreater_61 post (nI r) (nI i) (nI b) (lN (ss_dv r (g i))) (lN (ss_dv r (g b))) (nI c) sC vA sA kA := by
  rw [← ss_gy_gr] at h1 h0
  unfold ss_gy at h1 h0
  rw [if_neg hn] at h1 h0
  refine sy_worth hc hr h hv hs hg hi (sy_worth hc hr h hv hs hg hb ?_)
  have e : lN (ss_wt r (v i) (g i)) * lN (ss_dv r (g b)) ≤ lN (ss_wt r (v b) (g b)) * lN (ss_dv r (g i)) ↔ ss_wt r (v i) (g i) * ss_dv r (g b) ≤ ss_wt r (v b) (g b) * ss_dv r (g i) := by
    rw [lN_mul, lN_mul]; exact pk_lLE (ss_m63 (ss_wt_lt (hv i hi)) (ss_dv_lt (hg b hb))) (ss_m63 (ss_wt_lt (hv b hb)) (ss_dv_lt (hg i hi)))
  exact ek_if e (fun z => h0 (decide_eq_false (by omega))) (fun z => h1 (decide_eq_true (by omega)))
theorem sy_isGreater {post : Int32 → Prop} {c : Nat} {sC : Int32} {vA sA kA : Nat → Int32} {v g : Nat → Nat} {r i b : Nat} (hc : c ≤ 6) (hr : r ≤ 4) (h : ss_sh c vA v) (hv : ∀ i, i < c → v i ≤ 2999) (hs : ss_sh c sA g) (hg : ∀ i, i < c → g i ≤ 31) (hi : i < c) (hb : b < c) (h1 : ss_gr r (v i) (g i) (v b) (g b) = true → post 1) (h0 : ss_gr r (v i) (g i) (v b) (g b) = false → post 0) : wpY_isGreater post (nI c, sC, vA, sA, kA) (nI r) (nI i) (nI b) := by
  have ei : vp_in (nI i) 6 := vp_in_nI (by omega) (by decide)
  have eb : vp_in (nI b) 6 := vp_in_nI (by omega) (by decide)
  have hvi := hv i hi
  have hvb := hv b hb
  refine ⟨ei, ?_⟩
  rw [ss_sh_at hs hc hi, ss_sh_at hs hc hb]
  refine sy_divisor hr (hg i hi) ⟨eb, sy_divisor hr (hg b hb) ?_⟩
  refine ek_if (d := ss_dv r (g i) = 0) (lN_eq (b := 0) (ss_dv_lt (hg i hi)) (by decide)) (fun e => ek_if (d := ss_dv r (g b) = 0) (lN_eq (b := 0) (ss_dv_lt (hg b hb)) (by decide)) (fun e' => ⟨ei, eb, pk_le (v i) (v b) (fun z => h0 ?_) (fun z => h1 ?_) (ss_sh_at h hc hi) (ss_sh_at h hc hb) (by omega) (by omega)⟩) (fun e' => ?_)) (fun e => ?_)
  · unfold ss_gr
    rw [if_pos ⟨e, e'⟩]; exact decide_eq_false (by omega)
  · unfold ss_gr
    rw [if_pos ⟨e, e'⟩]; exact decide_eq_true z
  · exact sy_g61 hc hr h hv hs hg hi hb (fun z => e' z.2) h1 h0
  · exact sy_g61 hc hr h hv hs hg hi hb (fun z => e z.1) h1 h0
theorem sy_q13 {post : SY → Prop} {J : Int32 → (Nat → Int32) → (Nat → Int32) → (Nat → Int32) → Prop} {c : Nat} {x2 sC : Int32} {vA sA kA : Nat → Int32} {v g : Nat → Nat} {r s : Nat} (hc : c ≤ 6) (hr : r ≤ 4) (h : ss_sh c vA v) (hv : ∀ i, i < c → v i ≤ 2999) (hs : ss_sh c sA g) (hg : ∀ i, i < c → g i ≤ 31) (hJ0 : ss_pick r v g c = none → J (nI (s + 1)) vA sA kA) (hJ1 : ∀ b, ss_pick r v g c = some b → J (nI (s + 1)) vA (upd sA b (nI (g b + 1))) kA) : ∃ n, wY_giveByQuotients_13 post J (nI r) x2 (nI s) (nI c) sC vA sA kA n (-1) 0 := by
  refine pk_loop (σ := Option Nat) (fun n i o => wY_giveByQuotients_13 post J (nI r) x2 (nI s) (nI c) sC vA sA kA n (ss_cd (-1) o) (nI i)) (fun i o => o = ss_pick r v g i) c 0 none (Nat.zero_le _) rfl
    (fun n o ho => br_t (nI_le (Nat.le_refl c) (by omega)) ?_)
    (fun n i o hi ho k => ?_)
  · cases o with
    | none => exact br_t (by decide) (nm_r (nI_1 s) (hJ0 ho.symm))
    | some d =>
      have hd := (ss_pick_lt c d ho.symm).1
      have ed : vp_in (nI d) 6 := vp_in_nI (by omega) (by decide)
      exact br_f (nI_pos (by omega)) ⟨ed, ed, nm_r (e' := upd sA d (nI (g d + 1))) (by
        show upd sA (nI d).toNatClampNeg (sA (nI d).toNatClampNeg + 1) = _
        rw [ss_sh_at hs hc hd, nI_clamp (by omega), nI_1]) (nm_r (nI_1 s) (hJ1 d ho.symm))⟩
  · have hvi := hv i hi
    have ei : vp_in (nI i) 6 := vp_in_nI (by omega) (by decide)
    refine br_f (nI_ge hi (by omega)) ⟨ei, pk_le (v i) 0 (fun hz => nm_r (nI_1 i) (k o (by rw [ho, ss_pick_z hz]))) (fun hz => ?_) (ss_sh_at h hc hi) rfl (by omega) (by decide)⟩
    cases o with
    | none => exact br_t (by decide) (nm_r (nI_1 i) (k (some i) (ss_pick_n hz ho.symm).symm))
    | some d =>
      have hd := (ss_pick_lt i d ho.symm).1
      exact br_f (nI_pos (by omega)) (sy_isGreater hc hr h hv hs hg hi (by omega) (fun h1 => br_f (by decide) (nm_r (nI_1 i) (k (some i) (ss_pick_1 hz ho.symm h1).symm))) (fun h0 => br_t rfl (nm_r (nI_1 i) (k (some d) (ss_pick_2 hz ho.symm h0).symm))))
theorem sy_gq {post : SY → Prop} {c : Nat} {sC : Int32} {vA sA kA : Nat → Int32} {v : Nat → Nat} {r N : Nat} (hc : c ≤ 6) (hr : r ≤ 4) (hN : N ≤ 31) (h : ss_sh c vA v) (hv : ∀ i, i < c → v i ≤ 2999) (hs : ss_sh c sA (fun _ => 0)) (hp : ∀ sh, ss_sh c sh (ss_q r c v N) → post (nI c, sC, vA, sh, kA)) : wpY_giveByQuotients post (nI c, sC, vA, sA, kA) (nI r) (nI N) :=
  pk_loop (σ := Nat → Int32) (fun n i sh => wY_giveByQuotients_2 post (nI r) (nI N) (nI c) sC n (nI i) vA sh kA) (fun i sh => ss_sh c sh (ss_q r c v i)) N 0 sA (Nat.zero_le _) hs
    (fun n sh hsh => br_t (nI_le (Nat.le_refl N) (by omega)) (hp sh hsh))
    (fun n i sh hi hsh k => br_f (nI_ge hi (by omega)) (sy_q13 hc hr h hv hsh (fun j _ => Nat.le_trans (ss_q_le i j) (by omega)) (fun hq => k sh (by rw [ss_q_none hq]; exact hsh)) (fun d hq => k _ (ss_sh_up hsh (fun j _ => by
      rw [ss_q_some hq]
      show (if j = d then ss_q r c v i j + 1 else ss_q r c v i j) = _
      by_cases e : j = d
      · rw [if_pos e, if_pos e, e]
      · rw [if_neg e, if_neg e])))))
/-! the reference's rests -/
theorem sy_r102 {post : SY → Prop} {J : Int32 → Int32 → (Nat → Int32) → (Nat → Int32) → (Nat → Int32) → Prop} {c : Nat} {sC x7 : Int32} {vA sA kA : Nat → Int32} {v q g : Nat → Nat} {l B T t : Nat} (hc : c ≤ 6) (h : ss_sh c vA v) (hv : ∀ i, i < c → v i ≤ 2999) (hs : ss_sh c sA g) (hB : B ≤ 31) (hT : 0 < T) (hT2 : T < 2 ^ 30) (hq : ∀ i, i < c → q i = v i * B % T) (hd : ∀ i, i < c → 0 < v i → bt x7 i = decide (ss_pl (ss_A v) q c i < t)) (hJ0 : ss_sc (ss_op (ss_A v) q c t) q c = none → J (nI (l + 1)) 0 vA sA kA) (hJ1 : ∀ b, ss_sc (ss_op (ss_A v) q c t) q c = some b → J (nI l) (x7 ||| ((1 : Int32) <<< (nI b &&& 31))) vA (upd sA b (nI (g b + 1))) kA) : ∃ n, wY_giveByRests_102 post J (nI (l + 1)) (nI T) (nI B) x7 (nI c) sC vA sA kA n (-1) 0 := by
  refine pk_loop (σ := Option Nat) (fun n i o => wY_giveByRests_102 post J (nI (l + 1)) (nI T) (nI B) x7 (nI c) sC vA sA kA n (ss_cd (-1) o) (nI i)) (fun i o => o = ss_sc (ss_op (ss_A v) q c t) q i) c 0 none (Nat.zero_le _) rfl
    (fun n o ho => br_t (nI_le (Nat.le_refl c) (by omega)) ?_)
    (fun n i o hi ho k => ?_)
  · cases o with
    | none => exact br_f (by decide) (hJ0 ho.symm)
    | some d =>
      have hdc := (ss_sc_some c d ho.symm).1
      have ed : vp_in (nI d) 6 := vp_in_nI (by omega) (by decide)
      exact br_t (nI_pos' (by omega)) (nm_e ⟨ed, ed, nm_r (e' := upd sA d (nI (g d + 1))) (by
        show upd sA (nI d).toNatClampNeg (sA (nI d).toNatClampNeg + 1) = _
        rw [ss_sh_at hs hc hdc, nI_clamp (by omega), nI_1]) (nm_r (pk_m1 l) (hJ1 d ho.symm))⟩)
  · have hvi := hv i hi
    have ei : vp_in (nI i) 6 := vp_in_nI (by omega) (by decide)
    have hne : ¬ nI T = 0 := nI_ne0 hT (by omega)
    have hrem : ∀ j, j < c → vA (nI j).toNatClampNeg * nI B - vA (nI j).toNatClampNeg * nI B / nI T * nI T = nI (q j) := fun j hj => by
      have hx : v j * B ≤ 2999 * 31 := Nat.mul_le_mul (hv j hj) hB
      rw [ss_sh_at h hc hj, pk_mul, pk_rem (by omega) hT (by omega), hq j hj]
    have hqb : ∀ j, j < c → q j < 2 ^ 30 := fun j hj => by
      rw [hq j hj]
      exact Nat.lt_trans (Nat.mod_lt _ hT) hT2
    have closed : ss_op (ss_A v) q c t i = false → wY_giveByRests_135 post J (wY_giveByRests_102 post J (nI (l + 1)) (nI T) (nI B) x7 (nI c) sC vA sA kA n) (nI (l + 1)) (nI T) (nI B) x7 (ss_cd (-1) o) (nI i) (nI c) sC vA sA kA := fun hz => br_t rfl (nm_r (nI_1 i) (k o (by rw [ho, ss_sc_z hz])))
    refine br_f (nI_ge hi (by omega)) ⟨ei, pk_le (v i) 0 (fun hz => closed ?_) (fun hz => ek_if (ss_bit x7 (i := i) (by omega)) (fun hb => ?_) (fun hb => closed ?_)) (ss_sh_at h hc hi) rfl (by omega) (by decide)⟩
    · show (decide (0 < v i) && _) = false
      rw [decide_eq_false (by omega)]; rfl
    · have hop : ss_op (ss_A v) q c t i = true := by
        rw [hd i hi hz, decide_eq_false_iff_not] at hb
        exact ss_op_iff.mpr ⟨decide_eq_true hz, by omega⟩
      refine br_f (by decide) ?_
      cases o with
      | none => exact br_t (by decide) (nm_r (nI_1 i) (k (some i) (ss_sc_n hop ho.symm).symm))
      | some d =>
        have hdi := (ss_sc_some i d ho.symm).1
        have ed : vp_in (nI d) 6 := vp_in_nI (by omega) (by decide)
        have q1 := hqb i hi
        have q2 := hqb d (by omega)
        exact br_f (nI_pos (by omega)) ⟨ei, hne, ed, hne, pk_le (q i) (q d) (fun z => nm_r (nI_1 i) (k (some d) (ss_sc_2 hop ho.symm z).symm)) (fun z => nm_r (nI_1 i) (k (some i) (ss_sc_1 hop ho.symm z).symm)) (hrem i hi) (hrem d (by omega)) (by omega) (by omega)⟩
    · cases hop : ss_op (ss_A v) q c t i with
      | false => rfl
      | true =>
        exfalso
        apply hb
        rw [hd i hi hz, decide_eq_false_iff_not]
        have := (ss_op_iff.mp hop).2
        omega
theorem sy_r91 {post : SY → Prop} {c : Nat} {sC : Int32} {vA sA kA : Nat → Int32} {v q base : Nat → Nat} {L B T : Nat} (hc : c ≤ 6) (hL : L < 2 ^ 30) (h : ss_sh c vA v) (hv : ∀ i, i < c → v i ≤ 2999) (hm : 0 < ss_cnt (ss_A v) c) (hs : ss_sh c sA base) (hB : B ≤ 31) (hT : 0 < T) (hT2 : T < 2 ^ 30) (hq : ∀ i, i < c → q i = v i * B % T) (hp : ∀ sh, ss_sh c sh (ss_rv (ss_A v) q c (ss_cnt (ss_A v) c) base L) → post (nI c, sC, vA, sh, kA)) : ∃ n, wY_giveByRests_91 post (nI T) (nI B) (nI c) sC n (nI L) 0 vA sA kA := by
  refine loop_m (σ := Nat × Nat × Int32 × (Nat → Int32)) (fun n s => wY_giveByRests_91 post (nI T) (nI B) (nI c) sC n (nI (L - s.1)) s.2.2.1 vA s.2.2.2 kA)
    (fun s => s.1 ≤ L ∧ (s.2.1 = s.1 % ss_cnt (ss_A v) c ∨ (s.2.1 = ss_cnt (ss_A v) c ∧ s.1 % ss_cnt (ss_A v) c = 0)) ∧ (∀ i, i < c → 0 < v i → bt s.2.2.1 i = decide (ss_pl (ss_A v) q c i < s.2.1)) ∧ ss_sh c s.2.2.2 (ss_rv (ss_A v) q c (ss_cnt (ss_A v) c) base s.1))
    (fun s => 2 * (L - s.1) + s.2.1 / ss_cnt (ss_A v) c) (fun n s hI k => ?_) (0, 0, 0, sA) ⟨Nat.zero_le _, Or.inl (Nat.zero_mod _).symm, fun i _ _ => (b_0 i).trans (decide_eq_false (Nat.not_lt_zero _)).symm, hs⟩
  obtain ⟨s, t, x7, sh⟩ := s
  obtain ⟨hsL, ht, hd, hsh⟩ := hI
  dsimp only at hsL ht hd hsh k ⊢
  by_cases e : s = L
  · subst e
    exact br_t (nI_le (a := s - s) (b := 0) (by omega) (by decide)) (hp sh hsh)
  · obtain ⟨l, hl⟩ : ∃ l, L - s = l + 1 := ⟨L - s - 1, by omega⟩
    have hlt := Nat.mod_lt s hm
    rw [hl]
    refine br_f (nI_nle (by omega) (by omega)) (sy_r102 hc h hv hsh hB hT hT2 hq hd (fun hn => ?_) (fun b hb => ?_))
    · have htm : t = ss_cnt (ss_A v) c ∧ s % ss_cnt (ss_A v) c = 0 := by
        cases ht with
        | inr ht => exact ht
        | inl ht =>
          exfalso
          obtain ⟨b, hb, _⟩ := ss_scan (A := ss_A v) (r := q) (c := c) (t := t) (by omega)
          rw [hb] at hn
          exact nomatch hn
      have h1 : t / ss_cnt (ss_A v) c = 1 := by rw [htm.1]; exact Nat.div_self hm
      have h2 : 0 / ss_cnt (ss_A v) c = 0 := Nat.zero_div _
      have := k (s, 0, 0, sh) ⟨hsL, Or.inl htm.2.symm, fun i _ _ => (b_0 i).trans (decide_eq_false (Nat.not_lt_zero _)).symm, hsh⟩ (by
        show 2 * (L - s) + 0 / ss_cnt (ss_A v) c < 2 * (L - s) + t / ss_cnt (ss_A v) c
        rw [h1, h2]; omega)
      rw [← hl]; exact this
    · obtain ⟨hbc, Ab, htb, hpl⟩ := ss_best hb
      have hpm := ss_pl_m (r := q) hbc Ab
      have htt : t = s % ss_cnt (ss_A v) c := by
        cases ht with
        | inl ht => exact ht
        | inr ht => omega
      have hpt : ss_pl (ss_A v) q c b = t := by
        rw [hpl]; exact ss_N t (by omega)
      have hdm : (t + 1) / ss_cnt (ss_A v) c ≤ 1 := by
        have : (t + 1) / ss_cnt (ss_A v) c ≤ ss_cnt (ss_A v) c / ss_cnt (ss_A v) c := Nat.div_le_div_right (by omega)
        rw [Nat.div_self hm] at this
        exact this
      have hmod : t + 1 = (s + 1) % ss_cnt (ss_A v) c ∨ (t + 1 = ss_cnt (ss_A v) c ∧ (s + 1) % ss_cnt (ss_A v) c = 0) := by
        have hadd := Nat.add_mod s 1 (ss_cnt (ss_A v) c)
        by_cases em : t + 1 = ss_cnt (ss_A v) c
        · right
          refine ⟨em, ?_⟩
          have : s % ss_cnt (ss_A v) c + 1 = ss_cnt (ss_A v) c := by omega
          have h3 : (s + 1) % ss_cnt (ss_A v) c = (s % ss_cnt (ss_A v) c + 1) % ss_cnt (ss_A v) c := (Nat.mod_add_mod s (ss_cnt (ss_A v) c) 1).symm
          rw [h3, this]; exact Nat.mod_self _
        · left
          have h3 : (s + 1) % ss_cnt (ss_A v) c = (s % ss_cnt (ss_A v) c + 1) % ss_cnt (ss_A v) c := (Nat.mod_add_mod s (ss_cnt (ss_A v) c) 1).symm
          rw [h3, ← htt]; exact (Nat.mod_eq_of_lt (by omega)).symm
      have := k (s + 1, t + 1, x7 ||| ((1 : Int32) <<< (nI b &&& 31)), upd sh b (nI (ss_rv (ss_A v) q c (ss_cnt (ss_A v) c) base s b + 1))) ⟨by show s + 1 ≤ L; omega, hmod, fun i hi hvi => ?_, ss_sh_up hsh (fun i hi => ?_)⟩ (by
        show 2 * (L - (s + 1)) + (t + 1) / ss_cnt (ss_A v) c < 2 * (L - s) + t / ss_cnt (ss_A v) c
        generalize (t + 1) / ss_cnt (ss_A v) c = z1 at hdm ⊢
        generalize t / ss_cnt (ss_A v) c = z2
        omega)
      · dsimp only at this
        rw [show L - (s + 1) = l from by omega] at this
        exact this
      · show bt (x7 ||| ((1 : Int32) <<< (nI b &&& 31))) i = decide (ss_pl (ss_A v) q c i < t + 1)
        rw [ss_bor x7 (by omega) (by omega), hd i hi hvi]
        by_cases e2 : i = b
        · subst e2
          rw [decide_eq_true rfl, Bool.or_true, decide_eq_true (by omega)]
        · have h3 : ss_pl (ss_A v) q c i ≠ t := fun z => e2 (ss_pl_inj (r := q) hi hbc (decide_eq_true hvi) Ab (by omega))
          rw [decide_eq_false e2, Bool.or_false]
          by_cases e4 : ss_pl (ss_A v) q c i < t
          · rw [decide_eq_true e4, decide_eq_true (by omega)]
          · rw [decide_eq_false e4, decide_eq_false (by omega)]
      · rw [ss_rv_step hbc Ab (by omega) hi]
        by_cases e2 : i = b
        · rw [if_pos e2, if_pos e2, e2]
        · rw [if_neg e2, if_neg e2]
theorem sy_r41 {post : SY → Prop} {c : Nat} {sC : Int32} {vA sA kA : Nat → Int32} {v : Nat → Nat} {r N : Nat} (hc : c ≤ 6) (hN : N ≤ 31) (hV : 0 < ss_sum v c) (h : ss_sh c vA v) (hv : ∀ i, i < c → v i ≤ 2999) (hp : ∀ sh, ss_sh c sh (ss_R r c v N) → post (nI c, sC, vA, sh, kA)) : ∃ n, wY_giveByRests_41 post (nI (ss_tq r (ss_sum v c) N)) (nI (ss_bt r N)) (nI c) sC n (nI N) 0 vA sA kA := by
  have hq := ss_tq_pos (rule := r) (n := N) hV
  have hbt : ss_bt r N ≤ 31 := by
    unfold ss_bt
    by_cases e : r = 5
    · rw [if_pos e]; exact hN
    · rw [if_neg e]; omega
  have hsv := ss_sum_le (f := v) (c := c) (B := 2999) hv
  have hV2 : ss_sum v c ≤ 17994 := Nat.le_trans hsv (Nat.mul_le_mul hc (Nat.le_refl 2999))
  have hqb : ss_tq r (ss_sum v c) N < 2 ^ 30 := by
    unfold ss_tq
    by_cases e : r = 5
    · rw [if_pos e]; omega
    · rw [if_neg e]
      have := Nat.div_le_self (ss_sum v c) (N + 1)
      omega
  have hba := ss_ba_sum (rule := r) (c := c) (n := N) (v := v) hV
  have hm : 0 < ss_cnt (ss_A v) c := by
    obtain ⟨i, hi, hvi⟩ := ss_sum_pos c hV
    exact ss_cnt_pos hi (decide_eq_true hvi)
  refine pk_loop (σ := Nat → Int32) (fun n i sh => wY_giveByRests_41 post (nI (ss_tq r (ss_sum v c) N)) (nI (ss_bt r N)) (nI c) sC n (nI (N - ss_sum (ss_ba r c v N) i)) (nI i) vA sh kA) (fun i sh => ss_sh i sh (ss_ba r c v N)) c 0 sA (Nat.zero_le _) ss_sh_0
    (fun n sh hsh => br_t (nI_le (Nat.le_refl c) (by omega)) (sy_r91 hc (by omega) h hv hm hsh hbt hq hqb (fun i _ => rfl) hp))
    (fun n i sh hi hsh k => ?_)
  have ei : vp_in (nI i) 6 := vp_in_nI (by omega) (by decide)
  have hx : v i * ss_bt r N ≤ 2999 * 31 := Nat.mul_le_mul (hv i hi) hbt
  have hmo := ss_sum_mono (f := ss_ba r c v N) (a := i + 1) c (by omega)
  have hs1 : ss_sum (ss_ba r c v N) (i + 1) = ss_sum (ss_ba r c v N) i + ss_ba r c v N i := rfl
  refine br_f (nI_ge hi (by omega)) ⟨ei, nI_ne0 hq (by omega), ei, nm_r (e' := upd sh i (nI (ss_ba r c v N i))) (by
      rw [ss_sh_at h hc hi, nI_clamp (by omega), pk_mul, pk_div (by omega) hq (by omega)]; rfl) ⟨ei, nm_r (e' := nI (N - ss_sum (ss_ba r c v N) (i + 1))) ?_ (nm_r (nI_1 i) (k _ (ss_sh_s hsh)))⟩⟩
  rw [nI_clamp (by omega), pk_us, pk_sub (by omega), hs1]
  exact congrArg nI (by omega)
theorem sy_rests {post : SY → Prop} {c : Nat} {sC : Int32} {vA sA kA : Nat → Int32} {v : Nat → Nat} {r N : Nat} (hc : c ≤ 6) (hr : r ≤ 6) (hN : N ≤ 31) (hV : 0 < ss_sum v c) (h : ss_sh c vA v) (hv : ∀ i, i < c → v i ≤ 2999) (hp : ∀ sh, ss_sh c sh (ss_R r c v N) → post (nI c, sC, vA, sh, kA)) : wpY_giveByRests post (nI c, sC, vA, sA, kA) (nI r) (nI N) := by
  have hsv := ss_sum_le (f := v) (c := c) (B := 2999) hv
  have hV2 : ss_sum v c ≤ 17994 := Nat.le_trans hsv (Nat.mul_le_mul hc (Nat.le_refl 2999))
  have h41 := sy_r41 (post := post) (sC := sC) (sA := sA) (kA := kA) (r := r) hc hN hV h hv hp
  refine sy_votes hc h (pk_eq r 5 (fun e => ?_) (fun e => ⟨?_, ?_⟩) rfl rfl (by omega) (by decide))
  · have e1 : ss_bt r N = N := if_pos e
    have e2 : ss_tq r (ss_sum v c) N = ss_sum v c := if_pos e
    rw [e1, e2] at h41
    exact br_t (by rw [e]; rfl) h41
  · rw [nI_1]; exact nI_ne0 (by omega) (by omega)
  · have e1 : ss_bt r N = 1 := if_neg e
    have e2 : ss_tq r (ss_sum v c) N = ss_sum v c / (N + 1) + 1 := if_neg e
    rw [e1, e2] at h41
    rw [nI_1 N, pk_div (by omega) (by omega) (by omega), nI_1 (ss_sum v c / (N + 1))]
    exact br_f (fun z => e ((nI_eq (b := 5) (by omega) (by decide)).mp z)) h41
theorem sy_give {post : SY → Prop} {c : Nat} {sC : Int32} {vA sA kA : Nat → Int32} {v : Nat → Nat} {r N : Nat} (hc : c ≤ 6) (hr : r ≤ 6) (hN : N ≤ 31) (h : ss_sh c vA v) (hv : ∀ i, i < c → v i ≤ 2999) (hp : ∀ sh, ss_sh c sh (ss_S r c v N) → post (nI c, sC, vA, sh, kA)) : wpY_give post (nI c, sC, vA, sA, kA) (nI r) (nI N) := by
  have hsv := ss_sum_le (f := v) (c := c) (B := 2999) hv
  have hV2 : ss_sum v c ≤ 17994 := Nat.le_trans hsv (Nat.mul_le_mul hc (Nat.le_refl 2999))
  exact pk_loop (σ := Nat → Int32) (fun n i sh => wY_give_2 post (nI r) (nI N) (nI c) sC n (nI i) vA sh kA) (fun i sh => ss_sh i sh (fun _ => 0)) 6 0 sA (Nat.zero_le _) ss_sh_0
    (fun n sh hsh => br_t (nI_le (Nat.le_refl 6) (by decide)) (sy_votes hc h (pk_eq (ss_sum v c) 0 (fun hz => hp sh (ss_sh_eq (ss_sh_le hc hsh) (fun i _ => ss_S_z (Or.inl hz) i))) (fun hz => pk_eq N 0 (fun hn => hp sh (ss_sh_eq (ss_sh_le hc hsh) (fun i _ => ss_S_z (Or.inr hn) i))) (fun hn => pk_le 5 r (fun h5 => sy_rests hc hr hN (by omega) h hv (fun sh' hsh' => hp sh' (by rw [ss_S_R h5 (by omega) (by omega)]; exact hsh'))) (fun h5 => sy_gq hc (by omega) hN h hv (ss_sh_le hc hsh) (fun sh' hsh' => hp sh' (by rw [ss_S_q (by omega)]; exact hsh'))) rfl rfl (by decide) (by omega)) rfl rfl (by omega) (by decide)) rfl rfl (by omega) (by decide))))
    (fun n i sh hi hsh k => br_f (nI_ge (b := 6) hi (by decide)) ⟨vp_in_nI hi (by decide), nm_r (e' := upd sh i (nI 0)) (by rw [nI_clamp (by omega)]; rfl) (nm_r (nI_1 i) (k _ (ss_sh_s (g := fun _ => 0) hsh)))⟩)
theorem sy_keep {post : SY → Prop} {c : Nat} {sC : Int32} {vA sA kA : Nat → Int32} {g : Nat → Nat} (hc : c ≤ 6) (hs : ss_sh c sA g) (hp : ∀ kp, ss_sh c kp g → post (nI c, sC, vA, sA, kp)) : wpY_keep post (nI c, sC, vA, sA, kA) :=
  pk_loop (σ := Nat → Int32) (fun n i kp => wY_keep_2 post (nI c) sC n (nI i) vA sA kp) (fun i kp => ∀ j, j < i → kp j = sA j) 6 0 kA (Nat.zero_le _) (fun j hj => absurd hj (Nat.not_lt_zero j))
    (fun n kp hk => br_t (nI_le (Nat.le_refl 6) (by decide)) (hp kp (fun i hi => (hk i (by omega)).trans (hs i hi))))
    (fun n i kp hi hk k => br_f (nI_ge (b := 6) hi (by decide)) ⟨vp_in_nI hi (by decide), vp_in_nI hi (by decide), nm_r (e' := upd kp i (sA i)) (by rw [nI_clamp (by omega)]) (nm_r (nI_1 i) (k _ (fun j hj => by
      by_cases e : j = i
      · rw [e]; exact pk_us
      · rw [pk_un e]; exact hk j (by omega))))⟩)
