/-! what the questions share -/
theorem ss_hv {c : Nat} {p : Nat → Nat} (hp : ∀ i, p i ≤ 999) : ∀ i, i < c → p i ≤ 2999 := fun i _ => Nat.le_trans (hp i) (by decide)
theorem sx_ps {post : SX → Prop} {c : Nat} {sC x : Int32} {p : Nat → Nat} {tA sA oA rA dA : Nat → Int32} {r N : Nat} (hc : c ≤ 6) (hr : r < 7) (hx : x = nI N) (hN : N ≤ 31) (hv : ∀ i, p i ≤ 999) (hp : ∀ sh rs od, ss_sh c sh (ss_S r c p N) → post (nI c, sC, (fun i => nI (p i)), tA, sh, oA, rs, od)) : wpX_shareOut__polled_shares post (nI c, sC, (fun i => nI (p i)), tA, sA, oA, rA, dA) (nI r) x := by
  rw [hx]; exact sx_out_polled_shares hc (by omega) hN ss_shf (ss_hv hv) hp
theorem sx_po {post : SX → Prop} {c : Nat} {sC x : Int32} {p : Nat → Nat} {tA sA oA rA dA : Nat → Int32} {r N : Nat} (hc : c ≤ 6) (hr : r < 7) (hx : x = nI N) (hN : N ≤ 31) (hv : ∀ i, p i ≤ 999) (hp : ∀ ot rs od, ss_sh c ot (ss_S r c p N) → post (nI c, sC, (fun i => nI (p i)), tA, sA, ot, rs, od)) : wpX_shareOut__polled_otherShares post (nI c, sC, (fun i => nI (p i)), tA, sA, oA, rA, dA) (nI r) x := by
  rw [hx]; exact sx_out_polled_otherShares hc (by omega) hN ss_shf (ss_hv hv) hp
theorem sy_gv {post : SY → Prop} {c : Nat} {sC x : Int32} {p : Nat → Nat} {sA kA : Nat → Int32} {r N : Nat} (hc : c ≤ 6) (hr : r < 7) (hx : x = nI N) (hN : N ≤ 31) (hv : ∀ i, p i ≤ 2999) (hp : ∀ sh, ss_sh c sh (ss_S r c p N) → post (nI c, sC, (fun i => nI (p i)), sh, kA)) : wpY_give post (nI c, sC, (fun i => nI (p i)), sA, kA) (nI r) x := by
  rw [hx]; exact sy_give hc (by omega) hN ss_shf (fun i _ => hv i) hp
theorem ss_h9 {p : Nat → Nat} (hp : ∀ i, p i ≤ 999) : ∀ i, p i ≤ 2999 := fun i => Nat.le_trans (hp i) (by decide)
theorem ss_S_62 {r c n i : Nat} {v : Nat → Nat} (hn : n ≤ 31) (hi : i < c) : ss_S r c v n i ≤ 62 := by
  have := ss_S_le (rule := r) (c := c) (n := n) (v := v) hi
  omega
theorem ss_q57 {x : Int32} (h : x < 0 ∨ nI 5 ≤ x) : (x < 0 ∨ nI 7 ≤ x) ∨ ∃ r, r < 7 ∧ 5 ≤ r ∧ x = nI r := by
  rcases ss_ix x (n := 7) (by decide) with h7 | ⟨r, hr, rfl⟩
  · exact Or.inl h7
  · refine Or.inr ⟨r, hr, ?_, rfl⟩
    cases h with
    | inl h => exact absurd h (nI_pos (by omega))
    | inr h => exact (nI_leI (by decide) (by omega)).mp h
theorem ss_least (P : Nat → Prop) : ∀ d a, ∃ e, a ≤ e ∧ e ≤ a + d ∧ (∀ n, a ≤ n → n < e → ¬ P n) ∧ (e < a + d → P e) := by
  intro d
  induction d with
  | zero => intro a; exact ⟨a, Nat.le_refl _, Nat.le_refl _, fun n h1 h2 => by omega, fun h => by omega⟩
  | succ d ih =>
    intro a
    by_cases h : P a
    · exact ⟨a, Nat.le_refl _, by omega, fun n h1 h2 => by omega, fun _ => h⟩
    · obtain ⟨e, h1, h2, h3, h4⟩ := ih (a + 1)
      refine ⟨e, by omega, by omega, fun n hn hne => ?_, fun hh => h4 (by omega)⟩
      by_cases e2 : n = a
      · rw [e2]; exact h
      · exact h3 n (by omega) hne
/-! share -/
theorem i_vc_share {k : Nat} {u : SX} {v : SY} (I : i_Rel k u v) (hk : k + 3 ≤ 1536) (v1 : Int32) (v2 : Int32) : wpX_share (fun r u' => wpY_share (fun r' v' => r' = r ∧ i_Rel (k + 3) u' v') v v1 v2) u v1 v2 := by
  obtain ⟨c, s, p, tA, sA, oA, rA, dA, yS, yK, hc, hs, hp, rfl, rfl⟩ := I
  unfold wpX_share wpY_share
  rcases ss_ix v1 (n := 7) (by decide) with h | ⟨r, hr, rfl⟩
  · exact sx_isRule_b h (br_t rfl (sy_noRule_b h (br_f (by decide) ⟨rfl, ss_rel hc hs hp⟩)))
  · rcases ss_ix v2 (n := c) (by omega) with h | ⟨i, hi, rfl⟩
    · exact sx_isRule_o hr (br_f (by decide) (sx_isList_b hc h (br_t rfl (sy_noRule_o hr (br_t rfl (sy_noList_b hc h (br_f (by decide) ⟨rfl, ss_rel hc hs hp⟩)))))))
    · have ei : vp_in (nI i) 6 := vp_in_nI (by omega) (by decide)
      exact sx_isRule_o hr (br_f (by decide) (sx_isList_o hc hi (br_f (by decide) (sx_ps hc hr rfl (by omega) hp (fun sh rs od hsh => ⟨ei, sy_noRule_o hr (br_t rfl (sy_noList_o hc hi (br_t rfl (sy_gv hc hr rfl (by omega) (ss_h9 hp) (fun sh' hsh' => ⟨ei, by rw [ss_sh_at hsh hc hi, ss_sh_at hsh' hc hi], ss_rel hc hs hp⟩)))))⟩)))))
/-! next -/
theorem sy_n41 {post : Int32 → SY → Prop} {c : Nat} {sC : Int32} {vA sA kA : Nat → Int32} {g g' : Nat → Nat} {o : Option Nat} (hc : c ≤ 6) (hs : ss_sh c sA g') (hk : ss_sh c kA g) (hg : ∀ i, i < c → g i ≤ 62) (hg' : ∀ i, i < c → g' i ≤ 62) (ho : ∀ i, i < c → (g i < g' i ↔ o = some i)) (hb : ∀ b, o = some b → b < c) (hp : post (ss_cd (-4) o) (nI c, sC, vA, sA, kA)) : ∃ n, wY_next_41 post (nI c) sC vA sA kA n 0 := by
  have st : ∀ n i, i < c → ¬ o = some i → wY_next_41 post (nI c) sC vA sA kA n (nI (i + 1)) → wY_next_41 post (nI c) sC vA sA kA (n + 1) (nI i) := fun n i hi hne ih => by
    have ei : vp_in (nI i) 6 := vp_in_nI (by omega) (by decide)
    have b1 := hg i hi
    have b2 := hg' i hi
    exact br_f (nI_ge hi (by omega)) ⟨ei, ei, pk_le (g' i) (g i) (fun _ => nm_r (nI_1 i) ih) (fun z => absurd ((ho i hi).mp z) hne) (ss_sh_at hs hc hi) (ss_sh_at hk hc hi) (by omega) (by omega)⟩
  cases o with
  | none =>
    exact ss_loop (fun n i => wY_next_41 post (nI c) sC vA sA kA n (nI i)) c 0 (Nat.zero_le _) (fun n => br_t (nI_le (Nat.le_refl c) (by omega)) hp) (fun n i _ hi ih => st n i hi (fun z => nomatch z) ih)
  | some b =>
    have hbc := hb b rfl
    have b1 := hg b hbc
    have b2 := hg' b hbc
    have eb : vp_in (nI b) 6 := vp_in_nI (by omega) (by decide)
    exact ss_loop (fun n i => wY_next_41 post (nI c) sC vA sA kA n (nI i)) b 0 (Nat.zero_le _) (fun n => br_f (nI_ge hbc (by omega)) ⟨eb, eb, pk_le (g' b) (g b) (fun z => absurd ((ho b hbc).mpr rfl) (by omega)) (fun z => hp) (ss_sh_at hs hc hbc) (ss_sh_at hk hc hbc) (by omega) (by omega)⟩) (fun n i _ hi ih => st n i (by omega) (fun z => by have := Option.some.inj z; omega) ih)
theorem i_vc_next {k : Nat} {u : SX} {v : SY} (I : i_Rel k u v) (hk : k + 3 ≤ 1536) (v1 : Int32) : wpX_next (fun r u' => wpY_next (fun r' v' => r' = r ∧ i_Rel (k + 3) u' v') v v1) u v1 := by
  obtain ⟨c, s, p, tA, sA, oA, rA, dA, yS, yK, hc, hs, hp, rfl, rfl⟩ := I
  unfold wpX_next wpY_next
  rcases ss_ix v1 (n := 5) (by decide) with h | ⟨r, hr, rfl⟩
  · refine sx_isQuotientRule_b h (br_t rfl ?_)
    rcases ss_q57 h with h7 | ⟨r, hr, h5, rfl⟩
    · exact sy_noRule_b h7 (br_f (by decide) ⟨rfl, ss_rel hc hs hp⟩)
    · exact sy_noRule_o hr (br_t rfl (br_f (nI_ge (a := 4) (by omega) (by omega)) ⟨rfl, ss_rel hc hs hp⟩))
  · have eq5 : ∀ n, ss_S r c p n = ss_q r c p n := fun n => ss_S_q hr
    have key : ∀ i, i < c → (ss_S r c p s i < ss_S r c p (s + 1) i ↔ ss_pick r p (ss_S r c p s) c = some i) := fun i hi => by
      rw [eq5, eq5]
      cases hq : ss_pick r p (ss_q r c p s) c with
      | none => exact ⟨fun z => absurd z (ss_next_none hq i), fun z => nomatch z⟩
      | some b => exact (ss_next_some hq i).trans ⟨fun z => by rw [z], fun z => (Option.some.inj z).symm⟩
    have hlt : ∀ b, ss_pick r p (ss_S r c p s) c = some b → b < c := fun b hb => (ss_pick_lt c b hb).1
    have hS : ∀ i, i < c → ss_S r c p s i ≤ 31 := fun i _ => by
      rw [eq5]; exact Nat.le_trans (ss_q_le s i) (by omega)
    exact sx_isQuotientRule_o hr (br_f (by decide) (sx_ps hc (by omega) rfl (by omega) hp (fun sh rs od hsh => sx_gq_polled_shares hc (by omega) ss_shf (ss_hv hp) hsh hS (sy_noRule_o (by omega) (br_t rfl (br_t (nI_le (b := 4) (by omega) (by decide)) (sy_gv hc (by omega) rfl (by omega) (ss_h9 hp) (fun sh' hsh' => sy_keep hc hsh' (fun kp hkp => sy_gv hc (by omega) (nI_1 s) (by omega) (ss_h9 hp) (fun sh2 hsh2 => sy_n41 hc hsh2 hkp (fun i hi => ss_S_62 (by omega) hi) (fun i hi => ss_S_62 (by omega) hi) key hlt ⟨rfl, ss_rel hc hs hp⟩))))))))))
/-! outside -/
def ss_od (s : Nat) (p : Nat → Nat) (V : Nat) (g : Nat → Nat) : Nat → Bool := fun i => decide (g i < s * p i / V ∨ (s * p i + V - 1) / V < g i)
theorem sx_o47 {post : Int32 → SX → Prop} {c s V : Nat} {p g : Nat → Nat} {tA sA oA rA dA : Nat → Int32} (hc : c ≤ 6) (hs : s ≤ 30) (hV : 0 < V) (hV2 : V ≤ 5994) (hv : ∀ i, p i ≤ 999) (hsh : ss_sh c sA g) (hg : ∀ i, i < c → g i ≤ 62) (hp : post (nI (ss_cnt (ss_od s p V g) c)) (nI c, nI s, (fun i => nI (p i)), tA, sA, oA, rA, dA)) : ∃ n, wX_outside_47 post (nI V) (nI c) (nI s) (fun i => nI (p i)) tA sA oA rA dA n 0 0 := by
  refine pk_loop (σ := Int32) (fun n i x => wX_outside_47 post (nI V) (nI c) (nI s) (fun i => nI (p i)) tA sA oA rA dA n x (nI i)) (fun i x => x = nI (ss_cnt (ss_od s p V g) i)) c 0 (nI 0) (Nat.zero_le _) rfl
    (fun n x hx => br_t (nI_le (Nat.le_refl c) (by omega)) (by rw [hx]; exact hp))
    (fun n i x hi hx k => ?_)
  have ei : vp_in (nI i) 6 := vp_in_nI (by omega) (by decide)
  have hne : ¬ nI V = 0 := nI_ne0 hV (by omega)
  have b1 := hg i hi
  have b2 : s * p i ≤ 30 * 999 := Nat.mul_le_mul hs (hv i)
  have b3 := Nat.div_le_self (s * p i) V
  have b4 := Nat.div_le_self (s * p i + V - 1) V
  have e1 : nI s * (fun i => nI (p i)) (nI i).toNatClampNeg = nI (s * p i) := by
    show nI s * nI (p (nI i).toNatClampNeg) = _
    rw [nI_clamp (by omega), pk_mul]
  have e2 : (nI (s * p i) + nI V - 1) / nI V = nI ((s * p i + V - 1) / V) := by
    rw [nI_add, show s * p i + V = (s * p i + V - 1) + 1 from by omega, nI_pred, pk_div (by omega) hV (by omega)]
    rfl
  have hin : ∀ z, (g i < s * p i / V ∨ (s * p i + V - 1) / V < g i) → z = x + 1 → z = nI (ss_cnt (ss_od s p V g) (i + 1)) := fun z hz ez => by
    rw [ez, hx, nI_1, ss_cnt_t (decide_eq_true hz)]
  refine br_f (nI_ge hi (by omega)) ⟨ei, nm_r e1 ⟨hne, nm_r (pk_div (by omega) hV (by omega)) ⟨hne, nm_r e2 ⟨ei, pk_lt (g i) (s * p i / V) (fun z => nm_e (nm_r (nI_1 i) (k (x + 1) (hin _ (Or.inl z) rfl)))) (fun z => ⟨ei, pk_le (g i) ((s * p i + V - 1) / V) (fun z2 => nm_r (nI_1 i) (k x ?_)) (fun z2 => nm_e (nm_r (nI_1 i) (k (x + 1) (hin _ (Or.inr z2) rfl)))) (ss_sh_at hsh hc hi) rfl (by omega) (by omega)⟩) (ss_sh_at hsh hc hi) rfl (by omega) (by omega)⟩⟩⟩⟩
  rw [hx, ss_cnt_f (decide_eq_false (by omega))]
theorem sy_o35 {post : Int32 → SY → Prop} {c s V : Nat} {p g : Nat → Nat} {sA kA : Nat → Int32} (hc : c ≤ 6) (hs : s ≤ 30) (hV : 0 < V) (hV2 : V ≤ 5994) (hv : ∀ i, p i ≤ 999) (hsh : ss_sh c sA g) (hg : ∀ i, i < c → g i ≤ 62) (hp : post (nI (ss_cnt (ss_od s p V g) c)) (nI c, nI s, (fun i => nI (p i)), sA, kA)) : ∃ n, wY_outside_35 post (nI V) (nI c) (nI s) (fun i => nI (p i)) sA kA n 0 0 := by
  refine pk_loop (σ := Int32) (fun n i x => wY_outside_35 post (nI V) (nI c) (nI s) (fun i => nI (p i)) sA kA n x (nI i)) (fun i x => x = nI (ss_cnt (ss_od s p V g) i)) c 0 (nI 0) (Nat.zero_le _) rfl
    (fun n x hx => br_t (nI_le (Nat.le_refl c) (by omega)) (by rw [hx]; exact hp))
    (fun n i x hi hx k => ?_)
  have ei : vp_in (nI i) 6 := vp_in_nI (by omega) (by decide)
  have hne : ¬ nI V = 0 := nI_ne0 hV (by omega)
  have b1 := hg i hi
  have b2 : s * p i ≤ 30 * 999 := Nat.mul_le_mul hs (hv i)
  have b3 := Nat.div_le_self (s * p i) V
  have b4 := Nat.div_le_self (s * p i + V - 1) V
  have e1 : nI s * (fun i => nI (p i)) (nI i).toNatClampNeg = nI (s * p i) := by
    show nI s * nI (p (nI i).toNatClampNeg) = _
    rw [nI_clamp (by omega), pk_mul]
  have e3 : nI s * (fun i => nI (p i)) (nI i).toNatClampNeg / nI V = nI (s * p i / V) := by
    rw [e1, pk_div (by omega) hV (by omega)]
  have e2 : (nI s * (fun i => nI (p i)) (nI i).toNatClampNeg + nI V - 1) / nI V = nI ((s * p i + V - 1) / V) := by
    rw [e1, nI_add, show s * p i + V = (s * p i + V - 1) + 1 from by omega, nI_pred, pk_div (by omega) hV (by omega)]
    rfl
  have hin : ∀ z, (g i < s * p i / V ∨ (s * p i + V - 1) / V < g i) → z = x + 1 → z = nI (ss_cnt (ss_od s p V g) (i + 1)) := fun z hz ez => by
    rw [ez, hx, nI_1, ss_cnt_t (decide_eq_true hz)]
  refine br_f (nI_ge hi (by omega)) ⟨ei, hne, nm_r e3 ⟨ei, hne, nm_r e2 ⟨ei, pk_lt (g i) (s * p i / V) (fun z => nm_e (nm_r (nI_1 i) (k (x + 1) (hin _ (Or.inl z) rfl)))) (fun z => ⟨ei, pk_le (g i) ((s * p i + V - 1) / V) (fun z2 => nm_r (nI_1 i) (k x ?_)) (fun z2 => nm_e (nm_r (nI_1 i) (k (x + 1) (hin _ (Or.inr z2) rfl)))) (ss_sh_at hsh hc hi) rfl (by omega) (by omega)⟩) (ss_sh_at hsh hc hi) rfl (by omega) (by omega)⟩⟩⟩
  rw [hx, ss_cnt_f (decide_eq_false (by omega))]
theorem i_vc_outside {k : Nat} {u : SX} {v : SY} (I : i_Rel k u v) (hk : k + 3 ≤ 1536) (v1 : Int32) : wpX_outside (fun r u' => wpY_outside (fun r' v' => r' = r ∧ i_Rel (k + 3) u' v') v v1) u v1 := by
  obtain ⟨c, s, p, tA, sA, oA, rA, dA, yS, yK, hc, hs, hp, rfl, rfl⟩ := I
  unfold wpX_outside wpY_outside
  rcases ss_ix v1 (n := 7) (by decide) with h | ⟨r, hr, rfl⟩
  · exact sx_isRule_b h (br_t rfl (sy_noRule_b h (br_f (by decide) ⟨rfl, ss_rel hc hs hp⟩)))
  · have hsv := ss_sum_le (f := p) (c := c) (B := 999) (fun i _ => hp i)
    have hV2 : ss_sum p c ≤ 5994 := Nat.le_trans hsv (Nat.mul_le_mul hc (Nat.le_refl 999))
    refine sx_isRule_o hr (br_f (by decide) (sx_sum_polled hc ss_shf (pk_eq (ss_sum p c) 0 (fun hz => ?_) (fun hz => ?_) rfl rfl (by omega) (by decide))))
    · exact sy_noRule_o hr (br_t rfl (sy_votes hc ss_shf (br_t (by rw [hz]; rfl) ⟨rfl, ss_rel hc hs hp⟩)))
    · exact sx_ps hc hr rfl (by omega) hp (fun sh rs od hsh => sx_o47 hc hs (by omega) hV2 hp hsh (fun i hi => ss_S_62 (by omega) hi) (sy_noRule_o hr (br_t rfl (sy_votes hc ss_shf (br_f (nI_ne0 (by omega) (by omega)) (sy_gv hc hr rfl (by omega) (ss_h9 hp) (fun sh' hsh' => sy_o35 hc hs (by omega) hV2 hp hsh' (fun i hi => ss_S_62 (by omega) hi) ⟨rfl, ss_rel hc hs hp⟩)))))))
/-! gains -/
theorem ss_gain_lt {a b : Nat → Nat} {c : Nat} (hc : c ≤ 6) (hb : ∀ i, i < c → b i ≤ 62) : ss_gain a b c ≤ 372 := by
  have h := ss_sum_le (f := fun i => b i - a i) (c := c) (B := 62) (fun i hi => by
    have := hb i hi
    show b i - a i ≤ 62
    omega)
  exact Nat.le_trans h (Nat.mul_le_mul hc (Nat.le_refl 62))
theorem ss_gain_s {a b : Nat → Nat} {i : Nat} : ss_gain a b (i + 1) = ss_gain a b i + (b i - a i) := rfl
theorem sx_gain_shares {post : Int32 → Prop} {c : Nat} {sC : Int32} {pA tA sA oA rA dA : Nat → Int32} {g g' : Nat → Nat} (hc : c ≤ 6) (h : ss_sh c sA g) (h' : ss_sh c oA g') (hg : ∀ i, i < c → g i ≤ 62) (hg' : ∀ i, i < c → g' i ≤ 62) (hp : post (nI (ss_gain g g' c))) : wpX_sumOfGains__shares_otherShares post (nI c, sC, pA, tA, sA, oA, rA, dA) := by
  refine pk_loop (σ := Int32) (fun n i x => wX_sumOfGains__shares_otherShares_5 post (nI c) sC pA tA sA oA rA dA n x (nI i)) (fun i x => x = nI (ss_gain g g' i)) c 0 (nI 0) (Nat.zero_le _) rfl
    (fun n x hx => br_t (nI_le (Nat.le_refl c) (by omega)) (by rw [hx]; exact hp))
    (fun n i x hi hx k => ?_)
  have ei : vp_in (nI i) 6 := vp_in_nI (by omega) (by decide)
  have b1 := hg i hi
  have b2 := hg' i hi
  refine br_f (nI_ge hi (by omega)) ⟨ei, ei, pk_le (g' i) (g i) (fun z => nm_r (nI_1 i) (k x ?_)) (fun z => ⟨ei, ei, nm_e (nm_r (nI_1 i) (k _ ?_))⟩) (ss_sh_at h' hc hi) (ss_sh_at h hc hi) (by omega) (by omega)⟩
  · rw [hx, ss_gain_s, show g' i - g i = 0 from by omega]; rfl
  · rw [hx, ss_sh_at h' hc hi, ss_sh_at h hc hi, pk_sub (by omega), nI_add, ss_gain_s]
theorem sx_gain_otherShares {post : Int32 → Prop} {c : Nat} {sC : Int32} {pA tA sA oA rA dA : Nat → Int32} {g g' : Nat → Nat} (hc : c ≤ 6) (h : ss_sh c oA g) (h' : ss_sh c sA g') (hg : ∀ i, i < c → g i ≤ 62) (hg' : ∀ i, i < c → g' i ≤ 62) (hp : post (nI (ss_gain g g' c))) : wpX_sumOfGains__otherShares_shares post (nI c, sC, pA, tA, sA, oA, rA, dA) := by
  refine pk_loop (σ := Int32) (fun n i x => wX_sumOfGains__otherShares_shares_5 post (nI c) sC pA tA sA oA rA dA n x (nI i)) (fun i x => x = nI (ss_gain g g' i)) c 0 (nI 0) (Nat.zero_le _) rfl
    (fun n x hx => br_t (nI_le (Nat.le_refl c) (by omega)) (by rw [hx]; exact hp))
    (fun n i x hi hx k => ?_)
  have ei : vp_in (nI i) 6 := vp_in_nI (by omega) (by decide)
  have b1 := hg i hi
  have b2 := hg' i hi
  refine br_f (nI_ge hi (by omega)) ⟨ei, ei, pk_le (g' i) (g i) (fun z => nm_r (nI_1 i) (k x ?_)) (fun z => ⟨ei, ei, nm_e (nm_r (nI_1 i) (k _ ?_))⟩) (ss_sh_at h' hc hi) (ss_sh_at h hc hi) (by omega) (by omega)⟩
  · rw [hx, ss_gain_s, show g' i - g i = 0 from by omega]; rfl
  · rw [hx, ss_sh_at h' hc hi, ss_sh_at h hc hi, pk_sub (by omega), nI_add, ss_gain_s]
theorem sy_m45 {post : Int32 → SY → Prop} {c : Nat} {sC : Int32} {vA sA kA : Nat → Int32} {g g' : Nat → Nat} (hc : c ≤ 6) (h : ss_sh c kA g) (h' : ss_sh c sA g') (hg : ∀ i, i < c → g i ≤ 62) (hg' : ∀ i, i < c → g' i ≤ 62) (hp : post (nI (ss_gain g g' c)) (nI c, sC, vA, sA, kA)) : ∃ n, wY_moved_45 post (nI c) sC vA sA kA n 0 0 := by
  refine pk_loop (σ := Int32) (fun n i x => wY_moved_45 post (nI c) sC vA sA kA n x (nI i)) (fun i x => x = nI (ss_gain g g' i)) c 0 (nI 0) (Nat.zero_le _) rfl
    (fun n x hx => br_t (nI_le (Nat.le_refl c) (by omega)) (by rw [hx]; exact hp))
    (fun n i x hi hx k => ?_)
  have ei : vp_in (nI i) 6 := vp_in_nI (by omega) (by decide)
  have b1 := hg i hi
  have b2 := hg' i hi
  refine br_f (nI_ge hi (by omega)) ⟨ei, ei, pk_le (g' i) (g i) (fun z => nm_r (nI_1 i) (k x ?_)) (fun z => ⟨ei, ei, nm_e (nm_r (nI_1 i) (k _ ?_))⟩) (ss_sh_at h' hc hi) (ss_sh_at h hc hi) (by omega) (by omega)⟩
  · rw [hx, ss_gain_s, show g' i - g i = 0 from by omega]; rfl
  · rw [hx, ss_sh_at h' hc hi, ss_sh_at h hc hi, pk_sub (by omega), nI_add, ss_gain_s]
theorem i_vc_moved {k : Nat} {u : SX} {v : SY} (I : i_Rel k u v) (hk : k + 3 ≤ 1536) (v1 : Int32) (v2 : Int32) : wpX_moved (fun r u' => wpY_moved (fun r' v' => r' = r ∧ i_Rel (k + 3) u' v') v v1 v2) u v1 v2 := by
  obtain ⟨c, s, p, tA, sA, oA, rA, dA, yS, yK, hc, hs, hp, rfl, rfl⟩ := I
  unfold wpX_moved wpY_moved
  rcases ss_ix v1 (n := 7) (by decide) with h | ⟨r, hr, rfl⟩
  · exact sx_isRule_b h (br_t rfl (sy_noRule_b h (br_f (by decide) ⟨rfl, ss_rel hc hs hp⟩)))
  · rcases ss_ix v2 (n := 7) (by decide) with h | ⟨q, hq, rfl⟩
    · exact sx_isRule_o hr (br_f (by decide) (sx_isRule_b h (br_t rfl (sy_noRule_o hr (br_t rfl (sy_noRule_b h (br_f (by decide) ⟨rfl, ss_rel hc hs hp⟩)))))))
    · exact sx_isRule_o hr (br_f (by decide) (sx_isRule_o hq (br_f (by decide) (sx_ps hc hr rfl (by omega) hp (fun sh rs od hsh => sx_po hc hq rfl (by omega) hp (fun ot rs' od' hot => sx_gain_shares hc hsh hot (fun i hi => ss_S_62 (by omega) hi) (fun i hi => ss_S_62 (by omega) hi) (sy_noRule_o hr (br_t rfl (sy_noRule_o hq (br_t rfl (sy_gv hc hr rfl (by omega) (ss_h9 hp) (fun sh' hsh' => sy_keep hc hsh' (fun kp hkp => sy_gv hc hq rfl (by omega) (ss_h9 hp) (fun sh2 hsh2 => sy_m45 hc hkp hsh2 (fun i hi => ss_S_62 (by omega) hi) (fun i hi => ss_S_62 (by omega) hi) ⟨rfl, ss_rel hc hs hp⟩))))))))))))))
/-! fall -/
def ss_fg (r c : Nat) (p : Nat → Nat) (n : Nat) : Nat := ss_gain (ss_S r c p (n + 1)) (ss_S r c p n) c
theorem sx_fst {post : Int32 → SX → Prop} {c : Nat} {sC : Int32} {p : Nat → Nat} {tA sA oA rA dA : Nat → Int32} {r n i : Nat} (hc : c ≤ 6) (hr : r < 7) (hv : ∀ i, p i ≤ 999) (hi : i < 30) (h0 : ss_fg r c p i = 0 → ∀ sh ot rs od, wX_fall_15 post (nI r) n (nI (i + 1)) (nI c) sC (fun i => nI (p i)) tA sh ot rs od) (h1 : 0 < ss_fg r c p i → ∀ sh ot rs od, post (nI i) (nI c, sC, (fun i => nI (p i)), tA, sh, ot, rs, od)) : wX_fall_15 post (nI r) (n + 1) (nI i) (nI c) sC (fun i => nI (p i)) tA sA oA rA dA := by
  have hb : ss_fg r c p i ≤ 372 := ss_gain_lt hc (fun j hj => ss_S_62 (by omega) hj)
  exact br_f (nI_ge (b := 30) hi (by decide)) (sx_ps hc hr rfl (by omega) hv (fun sh rs od hsh => sx_po hc hr (nI_1 i) (by omega) hv (fun ot rs' od' hot => sx_gain_otherShares hc hot hsh (fun j hj => ss_S_62 (by omega) hj) (fun j hj => ss_S_62 (by omega) hj) (pk_le (ss_fg r c p i) 0 (fun z => nm_r (nI_1 i) (h0 (by omega) _ _ _ _)) (fun z => h1 z _ _ _ _) rfl rfl (by omega) (by decide)))))
theorem sy_f41 {post : Int32 → SY → Prop} {J : Int32 → Int32 → Int32 → (Nat → Int32) → (Nat → Int32) → (Nat → Int32) → Prop} {c : Nat} {x1 sC : Int32} {vA sA kA : Nat → Int32} {g g' : Nat → Nat} {m : Nat} (hc : c ≤ 6) (h : ss_sh c kA g) (h' : ss_sh c sA g') (hg : ∀ i, i < c → g i ≤ 62) (hg' : ∀ i, i < c → g' i ≤ 62) (h0 : ss_gain g' g c = 0 → J (nI (m + 1)) (nI c) sC vA sA kA) (h1 : 0 < ss_gain g' g c → post (nI m) (nI c, sC, vA, sA, kA)) : ∃ n, wY_fall_41 post J x1 (nI m) (nI c) sC vA sA kA n 0 := by
  obtain ⟨e, _, he, hno, hyes⟩ := ss_least (fun i => g' i < g i) c 0
  rw [Nat.zero_add] at he hyes
  refine ss_loop (fun n i => wY_fall_41 post J x1 (nI m) (nI c) sC vA sA kA n (nI i)) e 0 (Nat.zero_le _) (fun n => ?_) (fun n i _ hi ih => ?_)
  · by_cases ec : e = c
    · subst ec
      refine br_t (nI_le (Nat.le_refl e) (by omega)) (nm_r (nI_1 m) (h0 ?_))
      cases hz : ss_gain g' g e with
      | zero => rfl
      | succ z =>
        obtain ⟨j, hj, hl⟩ := ss_gain_pos.mp (show 0 < ss_gain g' g e by omega)
        exact absurd hl (hno j (Nat.zero_le _) hj)
    · have hec : e < c := by omega
      have hl := hyes hec
      have ee : vp_in (nI e) 6 := vp_in_nI (by omega) (by decide)
      have b1 := hg e hec
      have b2 := hg' e hec
      exact br_f (nI_ge hec (by omega)) ⟨ee, ee, pk_le (g e) (g' e) (fun z => absurd hl (by omega)) (fun z => h1 (ss_gain_pos.mpr ⟨e, hec, hl⟩)) (ss_sh_at h hc hec) (ss_sh_at h' hc hec) (by omega) (by omega)⟩
  · have hic : i < c := by omega
    have ei : vp_in (nI i) 6 := vp_in_nI (by omega) (by decide)
    have b1 := hg i hic
    have b2 := hg' i hic
    exact br_f (nI_ge hic (by omega)) ⟨ei, ei, pk_le (g i) (g' i) (fun _ => nm_r (nI_1 i) ih) (fun z => absurd z (hno i (Nat.zero_le _) hi)) (ss_sh_at h hc hic) (ss_sh_at h' hc hic) (by omega) (by omega)⟩
theorem sy_fst {post : Int32 → SY → Prop} {c : Nat} {sC : Int32} {p : Nat → Nat} {sA kA : Nat → Int32} {r n i : Nat} (hc : c ≤ 6) (hr : r < 7) (hv : ∀ i, p i ≤ 999) (hi : i < 30) (h0 : ss_fg r c p i = 0 → ∀ sh kp, wY_fall_15 post (nI r) n (nI (i + 1)) (nI c) sC (fun i => nI (p i)) sh kp) (h1 : 0 < ss_fg r c p i → ∀ sh kp, post (nI i) (nI c, sC, (fun i => nI (p i)), sh, kp)) : wY_fall_15 post (nI r) (n + 1) (nI i) (nI c) sC (fun i => nI (p i)) sA kA :=
  br_f (nI_nlt (a := 29) (by omega) (by decide)) (sy_gv hc hr rfl (by omega) (ss_h9 hv) (fun sh hsh => sy_keep hc hsh (fun kp hkp => sy_gv hc hr (nI_1 i) (by omega) (ss_h9 hv) (fun sh2 hsh2 => sy_f41 hc hkp hsh2 (fun j hj => ss_S_62 (by omega) hj) (fun j hj => ss_S_62 (by omega) hj) (fun z => h0 z _ _) (fun z => h1 z _ _)))))
def ss_fe (e : Nat) : Int32 := if e < 30 then nI e else -4
theorem sx_f15 {post : Int32 → SX → Prop} {c s : Nat} {sC : Int32} {p : Nat → Nat} {tA sA oA rA dA : Nat → Int32} {r e : Nat} (hc : c ≤ 6) (hr : r < 7) (hv : ∀ i, p i ≤ 999) (hse : s ≤ e) (he : e ≤ 30) (hno : ∀ n, s ≤ n → n < e → ¬ 0 < ss_fg r c p n) (hyes : e < 30 → 0 < ss_fg r c p e) (hp : ∀ sh ot rs od, post (ss_fe e) (nI c, sC, (fun i => nI (p i)), tA, sh, ot, rs, od)) : ∃ n, wX_fall_15 post (nI r) n (nI s) (nI c) sC (fun i => nI (p i)) tA sA oA rA dA := by
  refine pk_loop (σ := (Nat → Int32) × (Nat → Int32) × (Nat → Int32) × (Nat → Int32)) (fun n i st => wX_fall_15 post (nI r) n (nI i) (nI c) sC (fun i => nI (p i)) tA st.1 st.2.1 st.2.2.1 st.2.2.2) (fun i _ => s ≤ i) e s (sA, oA, rA, dA) hse (Nat.le_refl s) (fun n st _ => ?_) (fun n i st hi hsi k => ?_)
  · unfold ss_fe at hp
    by_cases ee : e < 30
    · rw [if_pos ee] at hp
      exact sx_fst hc hr hv ee (fun z => absurd (hyes ee) (by omega)) (fun _ sh ot rs od => hp sh ot rs od)
    · rw [if_neg ee] at hp
      have e3 : e = 30 := by omega
      subst e3
      exact br_t (nI_le (a := 30) (b := 30) (by decide) (by decide)) (hp _ _ _ _)
  · exact sx_fst hc hr hv (by omega) (fun _ sh ot rs od => k (sh, ot, rs, od) (by omega)) (fun z => absurd z (hno i hsi hi))
theorem sy_f15 {post : Int32 → SY → Prop} {c s : Nat} {sC : Int32} {p : Nat → Nat} {sA kA : Nat → Int32} {r e : Nat} (hc : c ≤ 6) (hr : r < 7) (hv : ∀ i, p i ≤ 999) (hse : s ≤ e) (he : e ≤ 30) (hno : ∀ n, s ≤ n → n < e → ¬ 0 < ss_fg r c p n) (hyes : e < 30 → 0 < ss_fg r c p e) (hp : ∀ sh kp, post (ss_fe e) (nI c, sC, (fun i => nI (p i)), sh, kp)) : ∃ n, wY_fall_15 post (nI r) n (nI s) (nI c) sC (fun i => nI (p i)) sA kA := by
  refine pk_loop (σ := (Nat → Int32) × (Nat → Int32)) (fun n i st => wY_fall_15 post (nI r) n (nI i) (nI c) sC (fun i => nI (p i)) st.1 st.2) (fun i _ => s ≤ i) e s (sA, kA) hse (Nat.le_refl s) (fun n st _ => ?_) (fun n i st hi hsi k => ?_)
  · unfold ss_fe at hp
    by_cases ee : e < 30
    · rw [if_pos ee] at hp
      exact sy_fst hc hr hv ee (fun z => absurd (hyes ee) (by omega)) (fun _ sh kp => hp sh kp)
    · rw [if_neg ee] at hp
      have e3 : e = 30 := by omega
      subst e3
      exact br_t (nI_lt (a := 29) (b := 30) (by decide) (by decide)) (hp _ _)
  · exact sy_fst hc hr hv (by omega) (fun _ sh kp => k (sh, kp) (by omega)) (fun z => absurd z (hno i hsi hi))
theorem i_vc_fall {k : Nat} {u : SX} {v : SY} (I : i_Rel k u v) (hk : k + 3 ≤ 1536) (v1 : Int32) : wpX_fall (fun r u' => wpY_fall (fun r' v' => r' = r ∧ i_Rel (k + 3) u' v') v v1) u v1 := by
  obtain ⟨c, s, p, tA, sA, oA, rA, dA, yS, yK, hc, hs, hp, rfl, rfl⟩ := I
  unfold wpX_fall wpY_fall
  rcases ss_ix v1 (n := 7) (by decide) with h | ⟨r, hr, rfl⟩
  · exact sx_isRule_b h (br_t rfl (sy_noRule_b h (br_f (by decide) ⟨rfl, ss_rel hc hs hp⟩)))
  · obtain ⟨e, hse, he, hno, hyes⟩ := ss_least (fun n => 0 < ss_fg r c p n) (30 - s) s
    rw [show s + (30 - s) = 30 from by omega] at he hyes
    exact sx_isRule_o hr (br_f (by decide) (sx_f15 hc hr hp hse he hno hyes (fun sh ot rs od => sy_noRule_o hr (br_t rfl (sy_f15 hc hr hp hse he hno hyes (fun sh' kp => ⟨rfl, ss_rel hc hs hp⟩))))))
