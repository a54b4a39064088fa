/-! missing and spare: one list's votes set otherwise -/
def ss_wi (p : Nat → Nat) (i x : Nat) : Nat → Nat := fun j => if j = i then x else p j
theorem ss_wi_p {p : Nat → Nat} {i : Nat} : ss_wi p i (p i) = p := by
  funext j
  by_cases e : j = i
  · rw [e]; exact if_pos rfl
  · exact if_neg e
theorem ss_wi_le {p : Nat → Nat} {i x : Nat} (hp : ∀ i, p i ≤ 999) (hx : x ≤ 2999) (j : Nat) : ss_wi p i x j ≤ 2999 := by
  unfold ss_wi
  by_cases e : j = i
  · rw [if_pos e]; exact hx
  · rw [if_neg e]; exact Nat.le_trans (hp j) (by decide)
/-- the share of list i when it has x votes -/
def ss_W (r c : Nat) (p : Nat → Nat) (s i x : Nat) : Nat := ss_S r c (ss_wi p i x) s i
theorem ss_W_le {r c s i x : Nat} {p : Nat → Nat} (hr : r < 5) : ss_W r c p s i x ≤ s := by
  unfold ss_W
  rw [ss_S_q hr]; exact ss_q_le s i
theorem ss_W_p {r c s i : Nat} {p : Nat → Nat} : ss_W r c p s i (p i) = ss_S r c p s i := by
  unfold ss_W; rw [ss_wi_p]
theorem sy_sw {post : Int32 → SY → Prop} {c s : Nat} {y : Int32} {p : Nat → Nat} {sA kA : Nat → Int32} {r i x : Nat} (hc : c ≤ 6) (hr : r < 7) (hs : s ≤ 30) (hi : i < c) (hv : ∀ i, p i ≤ 999) (hy : y = nI x) (hx : x ≤ 2999) (hp : ∀ sh, post (nI (ss_W r c p s i x)) (nI c, nI s, (fun k => nI (p k)), sh, kA)) : wpY_shareWith post (nI c, nI s, (fun k => nI (p k)), sA, kA) (nI r) (nI i) y := by
  subst hy
  have ei : vp_in (nI i) 6 := vp_in_nI (by omega) (by decide)
  refine ⟨ei, nm_e ⟨ei, nm_r (e' := fun k => nI (ss_wi p i x k)) (ss_up9 (by omega)) (sy_gv hc hr rfl (by omega) (ss_wi_le hv hx) (fun sh hsh => ⟨ei, nm_r (e' := fun k => nI (p k)) ?_ ⟨ei, ?_⟩⟩))⟩⟩
  · show upd (fun k => nI (ss_wi p i x k)) (nI i).toNatClampNeg (nI (p (nI i).toNatClampNeg)) = _
    rw [nI_clamp (by omega), ss_upd_f]
    funext k
    by_cases e : k = i
    · rw [if_pos e, e]
    · rw [if_neg e]
      exact congrArg nI (if_neg e)
  · rw [ss_sh_at hsh hc hi]; exact hp sh
/-- the trial array: all but list i as polled -/
def ss_tr (c i : Nat) (a : Nat → Int32) (p : Nat → Nat) : Prop := ∀ j, j < c → j ≠ i → a j = nI (p j)
theorem ss_tr_up {c i x : Nat} {a : Nat → Int32} {p : Nat → Nat} (h : ss_tr c i a p) : ss_sh c (upd a i (nI x)) (ss_wi p i x) := by
  intro j hj
  unfold ss_wi
  by_cases e : j = i
  · rw [if_pos e, e]; exact pk_us
  · rw [if_neg e, pk_un e]; exact h j hj e
theorem ss_tr_k {c i x : Nat} {a : Nat → Int32} {p : Nat → Nat} (h : ss_tr c i a p) : ss_tr c i (upd a i (nI x)) p := by
  intro j hj e
  rw [pk_un e]; exact h j hj e
theorem sx_copy {post : SX → Prop} {c : Nat} {sC : Int32} {p : Nat → Nat} {tA sA oA rA dA : Nat → Int32} (hc : c ≤ 6) (hp : ∀ tr, ss_sh c tr p → post (nI c, sC, (fun i => nI (p i)), tr, sA, oA, rA, dA)) : wpX_copyVotesToTrial post (nI c, sC, (fun i => nI (p i)), tA, sA, oA, rA, dA) :=
  pk_loop (σ := Nat → Int32) (fun n i tr => wX_copyVotesToTrial_2 post (nI c) sC n (nI i) (fun i => nI (p i)) tr sA oA rA dA) (fun i tr => ss_sh i tr p) c 0 tA (Nat.zero_le _) ss_sh_0
    (fun n tr htr => br_t (nI_le (Nat.le_refl c) (by omega)) (hp tr htr))
    (fun n i tr hi htr k => br_f (nI_ge hi (by omega)) ⟨vp_in_nI (by omega) (by decide), vp_in_nI (by omega) (by decide), nm_r (e' := upd tr i (nI (p i))) (by
      show upd tr (nI i).toNatClampNeg (nI (p (nI i).toNatClampNeg)) = _
      rw [nI_clamp (by omega)]) (nm_r (nI_1 i) (k _ (ss_sh_s htr)))⟩)
/-! missing -/
def ss_me (e : Nat) : Int32 := if e < 2001 then nI e else -4
theorem sx_mst {post : Int32 → SX → Prop} {c s : Nat} {p : Nat → Nat} {tA sA oA rA dA : Nat → Int32} {r n i m : Nat} (hc : c ≤ 6) (hr : r < 5) (hs : s ≤ 30) (hi : i < c) (hv : ∀ i, p i ≤ 999) (ht : ss_tr c i tA p) (hm : m < 2001) (h0 : ss_W r c p s i (p i + m) ≤ ss_S r c p s i → ∀ tr sh rs od, ss_tr c i tr p → wX_missing_49 post (nI r) (nI i) (nI (ss_S r c p s i)) n (nI (m + 1)) (nI c) (nI s) (fun i => nI (p i)) tr sh oA rs od) (h1 : ss_S r c p s i < ss_W r c p s i (p i + m) → ∀ tr sh rs od, post (nI m) (nI c, nI s, (fun i => nI (p i)), tr, sh, oA, rs, od)) : wX_missing_49 post (nI r) (nI i) (nI (ss_S r c p s i)) (n + 1) (nI m) (nI c) (nI s) (fun i => nI (p i)) tA sA oA rA dA := by
  have ei : vp_in (nI i) 6 := vp_in_nI (by omega) (by decide)
  have hpi := hv i
  have b1 := ss_W_le (r := r) (c := c) (p := p) (s := s) (i := i) (x := p i + m) hr
  have b2 : ss_S r c p s i ≤ s := by rw [← ss_W_p]; exact ss_W_le hr
  refine br_f (nI_nlt (a := 2000) (by omega) (by decide)) ⟨ei, ei, nm_r (e' := upd tA i (nI (p i + m))) ?_ (sx_out_trial_shares hc (by omega) (by omega) (ss_tr_up ht) (fun j _ => ss_wi_le hv (by omega) j) (fun sh rs od hsh => ⟨ei, pk_le (ss_W r c p s i (p i + m)) (ss_S r c p s i) (fun z => nm_r (nI_1 m) (h0 z _ _ _ _ (ss_tr_k ht))) (fun z => h1 z _ _ _ _) (ss_sh_at hsh hc hi) rfl (by omega) (by omega)⟩))⟩
  show upd tA (nI i).toNatClampNeg (nI (p (nI i).toNatClampNeg) + nI m) = _
  rw [nI_clamp (by omega), nI_add]
theorem sx_m49 {post : Int32 → SX → Prop} {c s : Nat} {p : Nat → Nat} {tA sA oA rA dA : Nat → Int32} {r i e : Nat} (hc : c ≤ 6) (hr : r < 5) (hs : s ≤ 30) (hi : i < c) (hv : ∀ i, p i ≤ 999) (ht : ss_tr c i tA p) (he1 : 1 ≤ e) (he : e ≤ 2001) (hno : ∀ m, 1 ≤ m → m < e → ¬ ss_S r c p s i < ss_W r c p s i (p i + m)) (hyes : e < 2001 → ss_S r c p s i < ss_W r c p s i (p i + e)) (hp : ∀ tr sh rs od, post (ss_me e) (nI c, nI s, (fun i => nI (p i)), tr, sh, oA, rs, od)) : ∃ n, wX_missing_49 post (nI r) (nI i) (nI (ss_S r c p s i)) n 1 (nI c) (nI s) (fun i => nI (p i)) tA sA oA rA dA := by
  refine pk_loop (σ := (Nat → Int32) × (Nat → Int32) × (Nat → Int32) × (Nat → Int32)) (fun n m st => wX_missing_49 post (nI r) (nI i) (nI (ss_S r c p s i)) n (nI m) (nI c) (nI s) (fun i => nI (p i)) st.1 st.2.1 oA st.2.2.1 st.2.2.2) (fun m st => 1 ≤ m ∧ ss_tr c i st.1 p) e 1 (tA, sA, rA, dA) he1 ⟨Nat.le_refl 1, ht⟩ (fun n st hst => ?_) (fun n m st hm hst k => ?_)
  · unfold ss_me at hp
    by_cases ee : e < 2001
    · rw [if_pos ee] at hp
      exact sx_mst hc hr hs hi hv hst.2 ee (fun z => absurd (hyes ee) (by omega)) (fun _ tr sh rs od => hp tr sh rs od)
    · rw [if_neg ee] at hp
      have e3 : e = 2001 := by omega
      subst e3
      exact br_t (nI_lt (a := 2000) (b := 2001) (by decide) (by decide)) (hp _ _ _ _)
  · exact sx_mst hc hr hs hi hv hst.2 (by omega) (fun _ tr sh rs od htr => k (tr, sh, rs, od) ⟨by omega, htr⟩) (fun z => absurd z (hno m hst.1 hm))
theorem sy_mst {post : Int32 → SY → Prop} {c s : Nat} {p : Nat → Nat} {sA kA : Nat → Int32} {r n i m : Nat} (hc : c ≤ 6) (hr : r < 5) (hs : s ≤ 30) (hi : i < c) (hv : ∀ i, p i ≤ 999) (hm : m < 2001) (h0 : ss_W r c p s i (p i + m) ≤ ss_S r c p s i → ∀ sh, wY_missing_50 post (nI r) (nI i) (nI (ss_S r c p s i)) n (nI (m + 1)) (nI c) (nI s) (fun i => nI (p i)) sh kA) (h1 : ss_S r c p s i < ss_W r c p s i (p i + m) → ∀ sh, post (nI m) (nI c, nI s, (fun i => nI (p i)), sh, kA)) : wY_missing_50 post (nI r) (nI i) (nI (ss_S r c p s i)) (n + 1) (nI m) (nI c) (nI s) (fun i => nI (p i)) sA kA := by
  have ei : vp_in (nI i) 6 := vp_in_nI (by omega) (by decide)
  have hpi := hv i
  have b1 := ss_W_le (r := r) (c := c) (p := p) (s := s) (i := i) (x := p i + m) hr
  have b2 : ss_S r c p s i ≤ s := by rw [← ss_W_p]; exact ss_W_le hr
  refine br_f (nI_nlt (a := 2000) (by omega) (by decide)) ⟨ei, sy_sw (x := p i + m) hc (by omega) hs hi hv ?_ (by omega) (fun sh => pk_le (ss_W r c p s i (p i + m)) (ss_S r c p s i) (fun z => nm_r (nI_1 m) (h0 z sh)) (fun z => h1 z sh) rfl rfl (by omega) (by omega))⟩
  show nI (p (nI i).toNatClampNeg) + nI m = _
  rw [nI_clamp (by omega), nI_add]
theorem sy_m50 {post : Int32 → SY → Prop} {c s : Nat} {p : Nat → Nat} {sA kA : Nat → Int32} {r i e : Nat} (hc : c ≤ 6) (hr : r < 5) (hs : s ≤ 30) (hi : i < c) (hv : ∀ i, p i ≤ 999) (he1 : 1 ≤ e) (he : e ≤ 2001) (hno : ∀ m, 1 ≤ m → m < e → ¬ ss_S r c p s i < ss_W r c p s i (p i + m)) (hyes : e < 2001 → ss_S r c p s i < ss_W r c p s i (p i + e)) (hp : ∀ sh, post (ss_me e) (nI c, nI s, (fun i => nI (p i)), sh, kA)) : ∃ n, wY_missing_50 post (nI r) (nI i) (nI (ss_S r c p s i)) n 1 (nI c) (nI s) (fun i => nI (p i)) sA kA := by
  refine pk_loop (σ := Nat → Int32) (fun n m sh => wY_missing_50 post (nI r) (nI i) (nI (ss_S r c p s i)) n (nI m) (nI c) (nI s) (fun i => nI (p i)) sh kA) (fun m _ => 1 ≤ m) e 1 sA he1 (Nat.le_refl 1) (fun n sh hst => ?_) (fun n m sh hm hst k => ?_)
  · unfold ss_me at hp
    by_cases ee : e < 2001
    · rw [if_pos ee] at hp
      exact sy_mst hc hr hs hi hv ee (fun z => absurd (hyes ee) (by omega)) (fun _ sh => hp sh)
    · rw [if_neg ee] at hp
      have e3 : e = 2001 := by omega
      subst e3
      exact br_t (nI_lt (a := 2000) (b := 2001) (by decide) (by decide)) (hp _)
  · exact sy_mst hc hr hs hi hv (by omega) (fun _ sh => k sh (by omega)) (fun z => absurd z (hno m hst hm))
theorem i_vc_missing {k : Nat} {u : SX} {v : SY} (I : i_Rel k u v) (hk : k + 3 ≤ 1536) (v1 : Int32) (v2 : Int32) : wpX_missing (fun r u' => wpY_missing (fun r' v' => r' = r ∧ i_Rel (k + 3) u' v') v v1 v2) u v1 v2 := by
  obtain ⟨c, s, p, tA, sA, oA, rA, dA, yS, yK, hc, hs, hp, rfl, rfl⟩ := I
  unfold wpX_missing wpY_missing
  rcases ss_ix v1 (n := 5) (by decide) with h | ⟨r, hr, rfl⟩
  · refine sx_isQuotientRule_b h (br_t rfl ?_)
    rcases ss_q57 h with h7 | ⟨r, hr, h5, rfl⟩
    · exact sy_noRule_b h7 (br_f (by decide) ⟨rfl, ss_rel hc hs hp⟩)
    · exact sy_noRule_o hr (br_t rfl (br_t (nI_lt (a := 4) (by omega) (by omega)) ⟨rfl, ss_rel hc hs hp⟩))
  · have n4 : ¬ (4 : Int32) < nI r := nI_nlt (a := 4) (by omega) (by decide)
    rcases ss_ix v2 (n := c) (by omega) with h | ⟨i, hi, rfl⟩
    · exact sx_isQuotientRule_o hr (br_f (by decide) (sx_isList_b hc h (br_t rfl (sy_noRule_o (by omega) (br_t rfl (br_f n4 (sy_noList_b hc h (br_f (by decide) ⟨rfl, ss_rel hc hs hp⟩))))))))
    · have ei : vp_in (nI i) 6 := vp_in_nI (by omega) (by decide)
      have hpi := hp i
      have b2 : ss_S r c p s i ≤ s := by rw [← ss_W_p]; exact ss_W_le hr
      obtain ⟨e, he1, he, hno, hyes⟩ := ss_least (fun m => ss_S r c p s i < ss_W r c p s i (p i + m)) 2000 1
      have he' : e ≤ 2001 := by omega
      have hyes' : e < 2001 → ss_S r c p s i < ss_W r c p s i (p i + e) := fun z => hyes (by omega)
      refine sx_isQuotientRule_o hr (br_f (by decide) (sx_isList_o hc hi (br_f (by decide) (sx_ps hc (by omega) rfl (by omega) hp (fun sh rs od hsh => ⟨ei, nm_r (ss_sh_at hsh hc hi) (sx_copy hc (fun tr htr => sx_m49 hc hr hs hi hp (fun j hj _ => htr j hj) he1 he' hno hyes' (fun tr' sh' rs' od' => ?_)))⟩)))))
      refine sy_noRule_o (by omega) (br_t rfl (br_f n4 (sy_noList_o hc hi (br_t rfl ⟨ei, sy_sw (x := p i) hc (by omega) hs hi hp (by
        show nI (p (nI i).toNatClampNeg) = _
        rw [nI_clamp (by omega)]) (by omega) (fun sh2 => ?_)⟩))))
      rw [ss_W_p]
      refine pk_eq (ss_S r c p s i) s (fun z => ⟨?_, ss_rel hc hs hp⟩) (fun z => sy_m50 hc hr hs hi hp he1 he' hno hyes' (fun sh3 => ⟨rfl, ss_rel hc hs hp⟩)) rfl rfl (by omega) (by omega)
      unfold ss_me
      by_cases ee : e < 2001
      · have h1 := hyes' ee
        have h2 := ss_W_le (r := r) (c := c) (p := p) (s := s) (i := i) (x := p i + e) hr
        omega
      · rw [if_neg ee]
/-! spare -/
theorem sx_s54 {post : Int32 → SX → Prop} {c s : Nat} {p : Nat → Nat} {tA sA oA rA dA : Nat → Int32} {r i e : Nat} (hc : c ≤ 6) (hr : r < 5) (hs : s ≤ 30) (hi : i < c) (hv : ∀ i, p i ≤ 999) (ht : ss_tr c i tA p) (he : e ≤ p i) (hno : ∀ f, e < f → f ≤ p i → ¬ ss_W r c p s i (p i - f) = ss_S r c p s i) (hyes : ss_W r c p s i (p i - e) = ss_S r c p s i) (hp : ∀ tr sh rs od, post (nI e) (nI c, nI s, (fun i => nI (p i)), tr, sh, oA, rs, od)) : ∃ n, wX_spare_54 post (nI r) (nI i) (nI (ss_S r c p s i)) n (nI (p i)) (nI c) (nI s) (fun i => nI (p i)) tA sA oA rA dA := by
  have hpi := hv i
  have ei : vp_in (nI i) 6 := vp_in_nI (by omega) (by decide)
  have b2 : ss_S r c p s i ≤ s := by rw [← ss_W_p]; exact ss_W_le hr
  have st : ∀ n f tr sh rs od, 0 < f → f ≤ p i → ss_tr c i tr p → (ss_W r c p s i (p i - f) = ss_S r c p s i → ∀ tr sh rs od, post (nI f) (nI c, nI s, (fun i => nI (p i)), tr, sh, oA, rs, od)) → (¬ ss_W r c p s i (p i - f) = ss_S r c p s i → ∀ tr sh rs od, ss_tr c i tr p → wX_spare_54 post (nI r) (nI i) (nI (ss_S r c p s i)) n (nI (f - 1)) (nI c) (nI s) (fun i => nI (p i)) tr sh oA rs od) → wX_spare_54 post (nI r) (nI i) (nI (ss_S r c p s i)) (n + 1) (nI f) (nI c) (nI s) (fun i => nI (p i)) tr sh oA rs od := by
    intro n f tr sh rs od hf hfp htr h1 h0
    obtain ⟨f', rfl⟩ : ∃ f', f = f' + 1 := ⟨f - 1, by omega⟩
    have b1 := ss_W_le (r := r) (c := c) (p := p) (s := s) (i := i) (x := p i - (f' + 1)) hr
    refine br_f (nI_nle hf (by omega)) ⟨ei, ei, nm_r (e' := upd tr i (nI (p i - (f' + 1)))) ?_ (sx_out_trial_shares hc (by omega) (by omega) (ss_tr_up htr) (fun j _ => ss_wi_le hv (by omega) j) (fun sh2 rs2 od2 hsh2 => ⟨ei, pk_eq (ss_W r c p s i (p i - (f' + 1))) (ss_S r c p s i) (fun z => h1 z _ _ _ _) (fun z => nm_r (pk_m1 f') (h0 z _ _ _ _ (ss_tr_k htr))) (ss_sh_at hsh2 hc hi) rfl (by omega) (by omega)⟩))⟩
    show upd tr (nI i).toNatClampNeg (nI (p (nI i).toNatClampNeg) - nI (f' + 1)) = _
    rw [nI_clamp (by omega), pk_sub hfp]
  refine pk_loop (σ := (Nat → Int32) × (Nat → Int32) × (Nat → Int32) × (Nat → Int32)) (fun n d st => wX_spare_54 post (nI r) (nI i) (nI (ss_S r c p s i)) n (nI (p i - d)) (nI c) (nI s) (fun i => nI (p i)) st.1 st.2.1 oA st.2.2.1 st.2.2.2) (fun _ st => ss_tr c i st.1 p) (p i - e) 0 (tA, sA, rA, dA) (Nat.zero_le _) ht (fun n t hst => ?_) (fun n d t hd hst k => ?_)
  · rw [show p i - (p i - e) = e from by omega]
    by_cases e0 : e = 0
    · subst e0
      exact br_t (nI_le (a := 0) (b := 0) (by decide) (by decide)) (hp _ _ _ _)
    · exact st n e _ _ _ _ (by omega) he hst (fun _ tr sh rs od => hp tr sh rs od) (fun z => absurd hyes z)
  · refine st n (p i - d) _ _ _ _ (by omega) (by omega) hst (fun z => absurd z (hno (p i - d) (by omega) (by omega))) (fun _ tr sh rs od htr => ?_)
    rw [show p i - d - 1 = p i - (d + 1) from by omega]
    exact k (tr, sh, rs, od) htr
theorem sy_s53 {post : Int32 → SY → Prop} {c s : Nat} {p : Nat → Nat} {sA kA : Nat → Int32} {r i e : Nat} (hc : c ≤ 6) (hr : r < 5) (hs : s ≤ 30) (hi : i < c) (hv : ∀ i, p i ≤ 999) (he : e ≤ p i) (hno : ∀ f, e < f → f ≤ p i → ¬ ss_W r c p s i (p i - f) = ss_S r c p s i) (hyes : ss_W r c p s i (p i - e) = ss_S r c p s i) (hp : ∀ sh, post (nI e) (nI c, nI s, (fun i => nI (p i)), sh, kA)) : ∃ n, wY_spare_53 post (nI r) (nI i) (nI (ss_S r c p s i)) n (nI (p i)) (nI (ss_W r c p s i 0)) (nI c) (nI s) (fun i => nI (p i)) sA kA := by
  have hpi := hv i
  have ei : vp_in (nI i) 6 := vp_in_nI (by omega) (by decide)
  have b2 : ss_S r c p s i ≤ s := by rw [← ss_W_p]; exact ss_W_le hr
  have e0 : ss_W r c p s i 0 = ss_W r c p s i (p i - (p i - 0)) := by rw [show p i - (p i - 0) = 0 from by omega]
  rw [e0]
  refine pk_loop (σ := Nat → Int32) (fun n d sh => wY_spare_53 post (nI r) (nI i) (nI (ss_S r c p s i)) n (nI (p i - d)) (nI (ss_W r c p s i (p i - (p i - d)))) (nI c) (nI s) (fun i => nI (p i)) sh kA) (fun _ _ => True) (p i - e) 0 sA (Nat.zero_le _) trivial (fun n sh _ => ?_) (fun n d sh hd _ k => ?_)
  · rw [show p i - (p i - e) = e from by omega]
    exact br_t (by rw [hyes]) (hp sh)
  · have b1 := ss_W_le (r := r) (c := c) (p := p) (s := s) (i := i) (x := p i - (p i - d)) hr
    have hne := hno (p i - d) (by omega) (by omega)
    have em : nI (p i - d) + (-1) = nI (p i - (d + 1)) := by
      rw [show p i - d = (p i - (d + 1)) + 1 from by omega]; exact pk_m1 _
    refine br_f (fun z => hne ((nI_eq (by omega) (by omega)).mp z)) (nm_r em ⟨ei, sy_sw (x := p i - (p i - (d + 1))) hc (by omega) hs hi hv ?_ (by omega) (fun sh2 => k sh2 trivial)⟩)
    show nI (p (nI i).toNatClampNeg) - nI (p i - (d + 1)) = _
    rw [nI_clamp (by omega), pk_sub (by omega)]
theorem i_vc_spare {k : Nat} {u : SX} {v : SY} (I : i_Rel k u v) (hk : k + 3 ≤ 1536) (v1 : Int32) (v2 : Int32) : wpX_spare (fun r u' => wpY_spare (fun r' v' => r' = r ∧ i_Rel (k + 3) u' v') v v1 v2) u v1 v2 := by
  obtain ⟨c, s, p, tA, sA, oA, rA, dA, yS, yK, hc, hs, hp, rfl, rfl⟩ := I
  unfold wpX_spare wpY_spare
  rcases ss_ix v1 (n := 5) (by decide) with h | ⟨r, hr, rfl⟩
  · refine sx_isQuotientRule_b h (br_t rfl ?_)
    rcases ss_q57 h with h7 | ⟨r, hr, h5, rfl⟩
    · exact sy_noRule_b h7 (br_f (by decide) ⟨rfl, ss_rel hc hs hp⟩)
    · exact sy_noRule_o hr (br_t rfl (br_t (nI_lt (a := 4) (by omega) (by omega)) ⟨rfl, ss_rel hc hs hp⟩))
  · have n4 : ¬ (4 : Int32) < nI r := nI_nlt (a := 4) (by omega) (by decide)
    rcases ss_ix v2 (n := c) (by omega) with h | ⟨i, hi, rfl⟩
    · exact sx_isQuotientRule_o hr (br_f (by decide) (sx_isList_b hc h (br_t rfl (sy_noRule_o (by omega) (br_t rfl (br_f n4 (sy_noList_b hc h (br_f (by decide) ⟨rfl, ss_rel hc hs hp⟩))))))))
    · have ei : vp_in (nI i) 6 := vp_in_nI (by omega) (by decide)
      have hpi := hp i
      have eat : (fun i => nI (p i)) (nI i).toNatClampNeg = nI (p i) := by
        show nI (p (nI i).toNatClampNeg) = _
        rw [nI_clamp (by omega)]
      obtain ⟨d, _, hd, hno, hyes⟩ := ss_least (fun d => ss_W r c p s i d = ss_S r c p s i) (p i) 0
      rw [Nat.zero_add] at hd hyes
      have hyes2 : ss_W r c p s i (p i - (p i - d)) = ss_S r c p s i := by
        rw [show p i - (p i - d) = d from by omega]
        by_cases ee : d < p i
        · exact hyes ee
        · rw [show d = p i from by omega]; exact ss_W_p
      have hno2 : ∀ f, p i - d < f → f ≤ p i → ¬ ss_W r c p s i (p i - f) = ss_S r c p s i := fun f h1 h2 => hno (p i - f) (Nat.zero_le _) (by omega)
      refine sx_isQuotientRule_o hr (br_f (by decide) (sx_isList_o hc hi (br_f (by decide) (sx_ps hc (by omega) rfl (by omega) hp (fun sh rs od hsh => ⟨ei, nm_r (ss_sh_at hsh hc hi) (sx_copy hc (fun tr htr => ⟨ei, nm_r eat (sx_s54 hc hr hs hi hp (fun j hj _ => htr j hj) (e := p i - d) (by omega) hno2 hyes2 (fun tr' sh' rs' od' => ?_))⟩))⟩)))))
      refine sy_noRule_o (by omega) (br_t rfl (br_f n4 (sy_noList_o hc hi (br_t rfl ⟨ei, sy_sw (x := p i) hc (by omega) hs hi hp eat (by omega) (fun sh2 => ⟨ei, nm_r eat (sy_sw (x := 0) hc (by omega) hs hi hp rfl (by omega) (fun sh3 => ?_))⟩)⟩))))
      rw [ss_W_p]
      exact sy_s53 hc hr hs hi hp (e := p i - d) (by omega) hno2 hyes2 (fun sh4 => ⟨rfl, ss_rel hc hs hp⟩)
