/-! guards: an argument out of range, and one within -/
theorem ss_out {x : Int32} {n : Nat} (hn : n < 2 ^ 30) (h : x < 0 ∨ nI n ≤ x) : x < 0 ∨ (¬ x < 0 ∧ ∃ j : Nat, n ≤ j ∧ j < 2 ^ 31 ∧ x = nI j) := by
  cases h with
  | inl h => exact Or.inl h
  | inr h =>
    by_cases h0 : x < 0
    · exact Or.inl h0
    · obtain ⟨j, hj, rfl⟩ := nI_of h0
      rw [nI_leI (by omega) hj] at h
      exact Or.inr ⟨h0, j, h, hj, rfl⟩
theorem ss_ix (x : Int32) {n : Nat} (hn : n < 2 ^ 31) : (x < 0 ∨ nI n ≤ x) ∨ ∃ j : Nat, j < n ∧ x = nI j := by
  rcases pk_ix x hn with h | h | h
  · exact Or.inl (Or.inl h)
  · exact Or.inl (Or.inr h)
  · exact Or.inr h
theorem sx_isVotes_b {post : Int32 → Prop} {c : Nat} {sC : Int32} {pA tA sA oA rA dA : Nat → Int32} {x : Int32} (h : x < 0 ∨ nI 1000 ≤ x) (hp : post 0) : wpX_isVotes post (nI c, sC, pA, tA, sA, oA, rA, dA) x := by
  rcases ss_out (by decide) h with h0 | ⟨h0, j, h1, h2, rfl⟩
  · exact br_t h0 hp
  · exact br_f h0 (br_t (nI_lt (a := 999) (by omega) h2) hp)
theorem sx_isVotes_o {post : Int32 → Prop} {c : Nat} {sC : Int32} {pA tA sA oA rA dA : Nat → Int32} {x : Nat} (h : x < 1000) (hp : post 1) : wpX_isVotes post (nI c, sC, pA, tA, sA, oA, rA, dA) (nI x) :=
  br_f (nI_pos (by omega)) (br_f (nI_nlt (a := 999) (b := x) (by omega) (by decide)) hp)
theorem sx_isRule_b {post : Int32 → Prop} {c : Nat} {sC : Int32} {pA tA sA oA rA dA : Nat → Int32} {x : Int32} (h : x < 0 ∨ nI 7 ≤ x) (hp : post 0) : wpX_isRule post (nI c, sC, pA, tA, sA, oA, rA, dA) x := by
  rcases ss_out (by decide) h with h0 | ⟨h0, j, h1, h2, rfl⟩
  · exact br_t h0 hp
  · exact br_f h0 (br_t (nI_lt (a := 6) (by omega) h2) hp)
theorem sx_isRule_o {post : Int32 → Prop} {c : Nat} {sC : Int32} {pA tA sA oA rA dA : Nat → Int32} {x : Nat} (h : x < 7) (hp : post 1) : wpX_isRule post (nI c, sC, pA, tA, sA, oA, rA, dA) (nI x) :=
  br_f (nI_pos (by omega)) (br_f (nI_nlt (a := 6) (b := x) (by omega) (by decide)) hp)
theorem sx_isQuotientRule_b {post : Int32 → Prop} {c : Nat} {sC : Int32} {pA tA sA oA rA dA : Nat → Int32} {x : Int32} (h : x < 0 ∨ nI 5 ≤ x) (hp : post 0) : wpX_isQuotientRule post (nI c, sC, pA, tA, sA, oA, rA, dA) x := by
  rcases ss_out (by decide) h with h0 | ⟨h0, j, h1, h2, rfl⟩
  · exact br_t h0 hp
  · exact br_f h0 (br_t (nI_lt (a := 4) (by omega) h2) hp)
theorem sx_isQuotientRule_o {post : Int32 → Prop} {c : Nat} {sC : Int32} {pA tA sA oA rA dA : Nat → Int32} {x : Nat} (h : x < 5) (hp : post 1) : wpX_isQuotientRule post (nI c, sC, pA, tA, sA, oA, rA, dA) (nI x) :=
  br_f (nI_pos (by omega)) (br_f (nI_nlt (a := 4) (b := x) (by omega) (by decide)) hp)
theorem sx_isList_b {post : Int32 → Prop} {c : Nat} {sC : Int32} {pA tA sA oA rA dA : Nat → Int32} {x : Int32} (hc : c ≤ 6) (h : x < 0 ∨ nI c ≤ x) (hp : post 0) : wpX_isList post (nI c, sC, pA, tA, sA, oA, rA, dA) x := by
  rcases ss_out (by omega) h with h0 | ⟨h0, j, h1, h2, rfl⟩
  · exact br_t h0 hp
  · exact br_f h0 (br_t (nI_le h1 h2) hp)
theorem sx_isList_o {post : Int32 → Prop} {c : Nat} {sC : Int32} {pA tA sA oA rA dA : Nat → Int32} {x : Nat} (hc : c ≤ 6) (h : x < c) (hp : post 1) : wpX_isList post (nI c, sC, pA, tA, sA, oA, rA, dA) (nI x) :=
  br_f (nI_pos (by omega)) (br_f (nI_ge h (by omega)) hp)
theorem sy_noVotes_b {post : Int32 → Prop} {c : Nat} {sC : Int32} {vA sA kA : Nat → Int32} {x : Int32} (h : x < 0 ∨ nI 1000 ≤ x) (hp : post 1) : wpY_noVotes post (nI c, sC, vA, sA, kA) x := by
  rcases ss_out (by decide) h with h0 | ⟨h0, j, h1, h2, rfl⟩
  · exact br_t h0 hp
  · exact br_f h0 (br_f (nI_ge (a := 999) (by omega) h2) hp)
theorem sy_noVotes_o {post : Int32 → Prop} {c : Nat} {sC : Int32} {vA sA kA : Nat → Int32} {x : Nat} (h : x < 1000) (hp : post 0) : wpY_noVotes post (nI c, sC, vA, sA, kA) (nI x) :=
  br_f (nI_pos (by omega)) (br_t (nI_le (a := x) (b := 999) (by omega) (by decide)) hp)
theorem sy_noRule_b {post : Int32 → Prop} {c : Nat} {sC : Int32} {vA sA kA : Nat → Int32} {x : Int32} (h : x < 0 ∨ nI 7 ≤ x) (hp : post 1) : wpY_noRule post (nI c, sC, vA, sA, kA) x := by
  rcases ss_out (by decide) h with h0 | ⟨h0, j, h1, h2, rfl⟩
  · exact br_t h0 hp
  · exact br_f h0 (br_f (nI_ge (a := 6) (by omega) h2) hp)
theorem sy_noRule_o {post : Int32 → Prop} {c : Nat} {sC : Int32} {vA sA kA : Nat → Int32} {x : Nat} (h : x < 7) (hp : post 0) : wpY_noRule post (nI c, sC, vA, sA, kA) (nI x) :=
  br_f (nI_pos (by omega)) (br_t (nI_le (a := x) (b := 6) (by omega) (by decide)) hp)
theorem sy_noList_b {post : Int32 → Prop} {c : Nat} {sC : Int32} {vA sA kA : Nat → Int32} {x : Int32} (hc : c ≤ 6) (h : x < 0 ∨ nI c ≤ x) (hp : post 1) : wpY_noList post (nI c, sC, vA, sA, kA) x := by
  rcases ss_out (by omega) h with h0 | ⟨h0, j, h1, h2, rfl⟩
  · exact br_t h0 hp
  · exact br_f h0 (br_f (nI_nlt h1 h2) hp)
theorem sy_noList_o {post : Int32 → Prop} {c : Nat} {sC : Int32} {vA sA kA : Nat → Int32} {x : Nat} (hc : c ≤ 6) (h : x < c) (hp : post 0) : wpY_noList post (nI c, sC, vA, sA, kA) (nI x) :=
  br_f (nI_pos (by omega)) (br_t (nI_lt h (by omega)) hp)
/-! the relation -/
def i_Rel (k : Nat) (u : SX) (v : SY) : Prop := ∃ (c s : Nat) (p : Nat → Nat) (tA sA oA rA dA yS yK : Nat → Int32), c ≤ 6 ∧ s ≤ 30 ∧ (∀ i, p i ≤ 999) ∧ u = (nI c, nI s, (fun i => nI (p i)), tA, sA, oA, rA, dA) ∧ v = (nI c, nI s, (fun i => nI (p i)), yS, yK)
theorem i_up {k : Nat} {u : SX} {v : SY} (h : i_Rel k u v) : i_Rel (k + 3) u v := h
theorem i_vc0 : wpX_init (fun u => wpY_init (fun v => i_Rel 0 u v)) :=
  ⟨0, 0, fun _ => 0, _, _, _, _, _, _, _, by decide, by decide, fun _ => Nat.zero_le _, rfl, rfl⟩
theorem ss_rel {k c s : Nat} {p : Nat → Nat} {tA sA oA rA dA yS yK : Nat → Int32} (hc : c ≤ 6) (hs : s ≤ 30) (hp : ∀ i, p i ≤ 999) : i_Rel k (nI c, nI s, (fun i => nI (p i)), tA, sA, oA, rA, dA) (nI c, nI s, (fun i => nI (p i)), yS, yK) :=
  ⟨c, s, p, tA, sA, oA, rA, dA, yS, yK, hc, hs, hp, rfl, rfl⟩
theorem ss_le_if {p : Nat → Nat} {j x : Nat} (hp : ∀ i, p i ≤ 999) (hx : x ≤ 999) : ∀ i, (if i = j then x else p i) ≤ 999 := fun i => by
  by_cases e : i = j
  · rw [if_pos e]; exact hx
  · rw [if_neg e]; exact hp i
theorem ss_shf {c : Nat} {p : Nat → Nat} : ss_sh c (fun i => nI (p i)) p := fun _ _ => rfl
theorem ss_up9 {p : Nat → Nat} {j x : Nat} (hj : j < 6) : upd (fun i => nI (p i)) (nI j).toNatClampNeg (nI x) = fun i => nI (if i = j then x else p i) := by
  rw [nI_clamp (by omega), ss_upd_f]
/-! list, vote, join, seats, bar, lists, votes -/
theorem i_vc_list {k : Nat} {u : SX} {v : SY} (I : i_Rel k u v) (hk : k + 3 ≤ 1536) (v1 : Int32) : wpX_list (fun r u' => wpY_list (fun r' v' => r' = r ∧ i_Rel (k + 3) u' v') v v1) u v1 := by
  obtain ⟨c, s, p, tA, sA, oA, rA, dA, yS, yK, hc, hs, hp, rfl, rfl⟩ := I
  rcases ss_ix v1 (n := 1000) (by decide) with h | ⟨x, hx, rfl⟩
  · unfold wpX_list wpY_list
    exact sx_isVotes_b h (br_t rfl (sy_noVotes_b h (br_f (by decide) ⟨rfl, ss_rel hc hs hp⟩)))
  · unfold wpX_list wpY_list
    refine sx_isVotes_o hx (br_f (by decide) (pk_lt c 6 (fun h6 => ⟨vp_in_nI h6 (by decide), nm_r (ss_up9 h6) (nm_r (nI_1 c) (sy_noVotes_o hx (br_t rfl (br_f (fun z => ?_) ⟨vp_in_nI h6 (by decide), nm_r (ss_up9 h6) (nm_r (nI_1 c) ⟨rfl, ss_rel (by omega) hs (ss_le_if hp (by omega))⟩)⟩))))⟩) (fun h6 => sy_noVotes_o hx (br_t rfl (br_t ?_ ⟨rfl, ss_rel hc hs hp⟩))) rfl rfl (by omega) (by decide)))
    · have := (nI_eq (b := 6) (by omega) (by decide)).mp z
      omega
    · have e : c = 6 := by omega
      rw [e]; rfl
theorem i_vc_vote {k : Nat} {u : SX} {v : SY} (I : i_Rel k u v) (hk : k + 3 ≤ 1536) (v1 : Int32) (v2 : Int32) : wpX_vote (fun r u' => wpY_vote (fun r' v' => r' = r ∧ i_Rel (k + 3) u' v') v v1 v2) u v1 v2 := by
  obtain ⟨c, s, p, tA, sA, oA, rA, dA, yS, yK, hc, hs, hp, rfl, rfl⟩ := I
  rcases ss_ix v1 (n := c) (by omega) with h | ⟨j, hj, rfl⟩
  · unfold wpX_vote wpY_vote
    exact sx_isList_b hc h (br_t rfl (sy_noList_b hc h (br_f (by decide) ⟨rfl, ss_rel hc hs hp⟩)))
  · unfold wpX_vote wpY_vote
    rcases ss_ix v2 (n := 1000) (by decide) with h | ⟨x, hx, rfl⟩
    · exact sx_isList_o hc hj (br_f (by decide) (sx_isVotes_b h (br_t rfl (sy_noList_o hc hj (br_t rfl (sy_noVotes_b h (br_f (by decide) ⟨rfl, ss_rel hc hs hp⟩)))))))
    · have ej : vp_in (nI j) 6 := vp_in_nI (by omega) (by decide)
      exact sx_isList_o hc hj (br_f (by decide) (sx_isVotes_o hx (br_f (by decide) ⟨ej, nm_e ⟨ej, nm_r (ss_up9 (by omega)) (sy_noList_o hc hj (br_t rfl (sy_noVotes_o hx (br_t rfl ⟨ej, nm_e ⟨ej, nm_r (ss_up9 (by omega)) ⟨rfl, ss_rel hc hs (ss_le_if hp (by omega))⟩⟩⟩))))⟩⟩)))
def ss_jn (p : Nat → Nat) (i j z : Nat) : Nat → Nat := fun k => if k = j then 0 else if k = i then z else p k
theorem ss_jn_le {p : Nat → Nat} {i j z : Nat} (hp : ∀ i, p i ≤ 999) (hz : z ≤ 999) (k : Nat) : ss_jn p i j z k ≤ 999 := ss_le_if (p := fun k => if k = i then z else p k) (ss_le_if hp hz) (Nat.zero_le _) k
theorem sx_j56 {post : Int32 → SX → Prop} {c : Nat} {sC : Int32} {p : Nat → Nat} {tA sA oA rA dA : Nat → Int32} {i j z : Nat} (hc : c ≤ 6) (hi : i < c) (hj : j < c) (hp : post (nI (ss_jn p i j z i)) (nI c, sC, (fun k => nI (ss_jn p i j z k)), tA, sA, oA, rA, dA)) : wX_join_56 post (nI i) (nI j) (nI z) (nI i) (nI c) sC (fun k => nI (p k)) tA sA oA rA dA := by
  have ei : vp_in (nI i) 6 := vp_in_nI (by omega) (by decide)
  have ej : vp_in (nI j) 6 := vp_in_nI (by omega) (by decide)
  refine ⟨ei, nm_r (ss_up9 (by omega)) ⟨ej, nm_r (ss_up9 (x := 0) (by omega)) ⟨ei, ?_⟩⟩⟩
  rw [nI_clamp (n := i) (by omega)]
  exact hp
theorem sy_j56 {post : Int32 → SY → Prop} {c : Nat} {sC : Int32} {p : Nat → Nat} {sA kA : Nat → Int32} {i j z : Nat} (hc : c ≤ 6) (hi : i < c) (hj : j < c) (hp : post (nI (ss_jn p i j z i)) (nI c, sC, (fun k => nI (ss_jn p i j z k)), sA, kA)) : wY_join_56 post (nI i) (nI j) (nI z) (nI i) (nI c) sC (fun k => nI (p k)) sA kA := by
  have ei : vp_in (nI i) 6 := vp_in_nI (by omega) (by decide)
  have ej : vp_in (nI j) 6 := vp_in_nI (by omega) (by decide)
  refine ⟨ei, nm_r (ss_up9 (by omega)) ⟨ej, nm_r (ss_up9 (x := 0) (by omega)) ⟨ei, ?_⟩⟩⟩
  rw [nI_clamp (n := i) (by omega)]
  exact hp
theorem i_vc_join {k : Nat} {u : SX} {v : SY} (I : i_Rel k u v) (hk : k + 3 ≤ 1536) (v1 : Int32) (v2 : Int32) : wpX_join (fun r u' => wpY_join (fun r' v' => r' = r ∧ i_Rel (k + 3) u' v') v v1 v2) u v1 v2 := by
  obtain ⟨c, s, p, tA, sA, oA, rA, dA, yS, yK, hc, hs, hp, rfl, rfl⟩ := I
  rcases ss_ix v1 (n := c) (by omega) with h | ⟨i, hi, rfl⟩
  · unfold wpX_join wpY_join
    exact sx_isList_b hc h (br_t rfl (sy_noList_b hc h (br_f (by decide) ⟨rfl, ss_rel hc hs hp⟩)))
  · unfold wpX_join wpY_join
    rcases ss_ix v2 (n := c) (by omega) with h | ⟨j, hj, rfl⟩
    · exact sx_isList_o hc hi (br_f (by decide) (sx_isList_b hc h (br_t rfl (sy_noList_o hc hi (br_t rfl (sy_noList_b hc h (br_f (by decide) ⟨rfl, ss_rel hc hs hp⟩)))))))
    · have ei : vp_in (nI i) 6 := vp_in_nI (by omega) (by decide)
      have ej : vp_in (nI j) 6 := vp_in_nI (by omega) (by decide)
      have hpi := hp i
      have hpj := hp j
      have es : (fun i => nI (p i)) (nI i).toNatClampNeg + (fun i => nI (p i)) (nI j).toNatClampNeg = nI (p i + p j) := by
        show nI (p (nI i).toNatClampNeg) + nI (p (nI j).toNatClampNeg) = _
        rw [nI_clamp (by omega), nI_clamp (by omega), nI_add]
      refine sx_isList_o hc hi (br_f (by decide) (sx_isList_o hc hj (br_f (by decide) (pk_eq i j (fun e => ?_) (fun e => ?_) rfl rfl (by omega) (by omega)))))
      · exact sy_noList_o hc hi (br_t rfl (sy_noList_o hc hj (br_t rfl (br_t (by rw [e]) ⟨rfl, ss_rel hc hs hp⟩))))
      · have ne : ¬ nI i = nI j := fun z => e ((nI_eq (by omega) (by omega)).mp z)
        refine ⟨ei, ej, nm_r es (pk_le (p i + p j) 999 (fun hz => sx_j56 hc hi hj ?_) (fun hz => sx_j56 (z := 999) hc hi hj ?_) rfl rfl (by omega) (by decide))⟩
        · exact sy_noList_o hc hi (br_t rfl (sy_noList_o hc hj (br_t rfl (br_f ne ⟨ei, ej, nm_r es (br_t (nI_le (b := 999) hz (by decide)) (sy_j56 hc hi hj ⟨rfl, ss_rel hc hs (ss_jn_le hp hz)⟩))⟩))))
        · exact sy_noList_o hc hi (br_t rfl (sy_noList_o hc hj (br_t rfl (br_f ne ⟨ei, ej, nm_r es (br_f (nI_ge (a := 999) hz (by omega)) (sy_j56 (z := 999) hc hi hj ⟨rfl, ss_rel hc hs (ss_jn_le hp (by omega))⟩))⟩))))
theorem i_vc_seats {k : Nat} {u : SX} {v : SY} (I : i_Rel k u v) (hk : k + 3 ≤ 1536) (v1 : Int32) : wpX_seats (fun r u' => wpY_seats (fun r' v' => r' = r ∧ i_Rel (k + 3) u' v') v v1) u v1 := by
  obtain ⟨c, s, p, tA, sA, oA, rA, dA, yS, yK, hc, hs, hp, rfl, rfl⟩ := I
  by_cases h0 : v1 < 0
  · exact br_t h0 (br_t h0 ⟨rfl, ss_rel hc hs hp⟩)
  · obtain ⟨x, hx, rfl⟩ := nI_of h0
    by_cases h30 : x ≤ 30
    · have h : nI x ≤ 30 := nI_le (b := 30) h30 (by decide)
      exact br_f h0 (br_t h (br_f h0 (br_t h ⟨rfl, ss_rel hc h30 hp⟩)))
    · have h : ¬ nI x ≤ 30 := nI_ge (a := 30) (by omega) hx
      exact br_f h0 (br_f h (br_f h0 (br_f h ⟨rfl, ss_rel hc hs hp⟩)))
theorem i_vc_lists {k : Nat} {u : SX} {v : SY} (I : i_Rel k u v) (hk : k + 3 ≤ 1536) : wpX_lists (fun r => wpY_lists (fun r' => r' = r ∧ i_Rel (k + 3) u v) v) u := by
  obtain ⟨c, s, p, tA, sA, oA, rA, dA, yS, yK, hc, hs, hp, rfl, rfl⟩ := I
  exact ⟨rfl, ss_rel hc hs hp⟩
theorem i_vc_votes {k : Nat} {u : SX} {v : SY} (I : i_Rel k u v) (hk : k + 3 ≤ 1536) : wpX_votes (fun r => wpY_votes (fun r' => r' = r ∧ i_Rel (k + 3) u v) v) u := by
  obtain ⟨c, s, p, tA, sA, oA, rA, dA, yS, yK, hc, hs, hp, rfl, rfl⟩ := I
  exact sx_sum_polled hc ss_shf (sy_votes hc ss_shf ⟨rfl, ss_rel hc hs hp⟩)
/-! bar -/
def ss_bar (p : Nat → Nat) (T i : Nat) : Nat → Nat := fun k => if k < i ∧ p k * 100 < T then 0 else p k
theorem ss_bar_le {p : Nat → Nat} {T i : Nat} (hp : ∀ i, p i ≤ 999) (k : Nat) : ss_bar p T i k ≤ 999 := by
  unfold ss_bar
  by_cases e : k < i ∧ p k * 100 < T
  · rw [if_pos e]; exact Nat.zero_le _
  · rw [if_neg e]; exact hp k
theorem ss_bar_0 {p : Nat → Nat} {T : Nat} : ss_bar p T 0 = p := by
  funext k
  exact if_neg (fun z => absurd z.1 (Nat.not_lt_zero k))
theorem ss_bar_i {p : Nat → Nat} {T i : Nat} : ss_bar p T i i = p i := if_neg (fun z => absurd z.1 (Nat.lt_irrefl i))
theorem ss_bar_k {p : Nat → Nat} {T i : Nat} (h : T ≤ p i * 100) : ss_bar p T (i + 1) = ss_bar p T i := by
  funext k
  unfold ss_bar
  by_cases e : k < i ∧ p k * 100 < T
  · rw [if_pos e, if_pos ⟨by omega, e.2⟩]
  · rw [if_neg e]
    refine if_neg (fun z => ?_)
    by_cases e2 : k = i
    · subst e2; omega
    · exact e ⟨by omega, z.2⟩
theorem ss_bar_z {p : Nat → Nat} {T i : Nat} (h : p i * 100 < T) : (fun k => nI (if k = i then 0 else ss_bar p T i k)) = fun k => nI (ss_bar p T (i + 1) k) := by
  funext k
  unfold ss_bar
  by_cases e2 : k = i
  · subst e2
    rw [if_pos rfl, if_pos ⟨by omega, h⟩]
  · rw [if_neg e2]
    by_cases e : k < i ∧ p k * 100 < T
    · rw [if_pos e, if_pos ⟨by omega, e.2⟩]
    · rw [if_neg e, if_neg (fun z => e ⟨by omega, z.2⟩)]
theorem ss_bar_c {p : Nat → Nat} {T i c : Nat} (h : i < c) : ss_bar p T (i + 1) i = ss_bar p T c i := by
  unfold ss_bar
  by_cases e : p i * 100 < T
  · rw [if_pos ⟨by omega, e⟩, if_pos ⟨h, e⟩]
  · rw [if_neg (fun z => e z.2), if_neg (fun z => e z.2)]
theorem sx_b23 {post : Int32 → SX → Prop} {c : Nat} {sC : Int32} {p : Nat → Nat} {tA sA oA rA dA : Nat → Int32} {b V : Nat} (hc : c ≤ 6) (hb : b * V < 2 ^ 31) (hv : ∀ i, p i ≤ 999) (hp : post (nI (ss_cnt (ss_A (ss_bar p (b * V) c)) c)) (nI c, sC, (fun k => nI (ss_bar p (b * V) c k)), tA, sA, oA, rA, dA)) : ∃ n, wX_bar_23 post (nI b) (nI V) (nI c) sC n 0 (fun k => nI (p k)) tA sA oA rA dA := by
  have e0 : (fun k => nI (p k)) = fun k => nI (ss_bar p (b * V) 0 k) := by rw [ss_bar_0]
  rw [e0]
  refine ss_loop (fun n i => wX_bar_23 post (nI b) (nI V) (nI c) sC n (nI i) (fun k => nI (ss_bar p (b * V) i k)) tA sA oA rA dA) c 0 (Nat.zero_le _)
    (fun n => br_t (nI_le (Nat.le_refl c) (by omega)) (sx_cnt_polled hc ss_shf (fun i _ => Nat.le_trans (ss_bar_le hv i) (by decide)) hp))
    (fun n i _ hi ih => ?_)
  have hvi := hv i
  have ei : vp_in (nI i) 6 := vp_in_nI (by omega) (by decide)
  refine br_f (nI_ge hi (by omega)) ⟨ei, pk_le (b * V) (p i * 100) (fun hz => nm_r (nI_1 i) ?_) (fun hz => ⟨ei, nm_r (e' := fun k => nI (ss_bar p (b * V) (i + 1) k)) ?_ (nm_r (nI_1 i) ih)⟩) (pk_mul b V) ?_ hb (by omega)⟩
  · rw [ss_bar_k hz] at ih; exact ih
  · exact (ss_up9 (x := 0) (by omega)).trans (ss_bar_z hz)
  · show nI (ss_bar p (b * V) i (nI i).toNatClampNeg) * nI 100 = _
    rw [nI_clamp (by omega), ss_bar_i, pk_mul]
theorem sy_b55 {post : Int32 → SY → Prop} {J : Int32 → Int32 → (Nat → Int32) → (Nat → Int32) → (Nat → Int32) → Prop} {c : Nat} {x1 x2 sC : Int32} {sA kA : Nat → Int32} {q : Nat → Nat} {m i : Nat} (hc : c ≤ 6) (hi : i < c) (hq : q i ≤ 999) (hJ : J (nI (m + if ss_A q i = true then 1 else 0)) (nI (i + 1)) (fun k => nI (q k)) sA kA) : wY_bar_55 post J x1 x2 (nI m) (nI i) (nI c) sC (fun k => nI (q k)) sA kA := by
  have ei : vp_in (nI i) 6 := vp_in_nI (by omega) (by decide)
  refine ⟨ei, pk_le (q i) 0 (fun hz => nm_r (nI_1 i) ?_) (fun hz => nm_r (nI_1 m) (nm_r (nI_1 i) ?_)) (ss_sh_at ss_shf hc hi) rfl (by omega) (by decide)⟩
  · rw [if_neg (by rw [show ss_A q i = false from decide_eq_false (by omega)]; decide)] at hJ; exact hJ
  · rw [if_pos (show ss_A q i = true from decide_eq_true hz)] at hJ; exact hJ
theorem sy_b22 {post : Int32 → SY → Prop} {c : Nat} {sC : Int32} {p : Nat → Nat} {sA kA : Nat → Int32} {b V : Nat} (hc : c ≤ 6) (hb : b * V < 2 ^ 31) (hv : ∀ i, p i ≤ 999) (hp : post (nI (ss_cnt (ss_A (ss_bar p (b * V) c)) c)) (nI c, sC, (fun k => nI (ss_bar p (b * V) c k)), sA, kA)) : ∃ n, wY_bar_22 post (nI b) (nI V) (nI c) sC n 0 0 (fun k => nI (p k)) sA kA := by
  have e0 : (fun k => nI (p k)) = fun k => nI (ss_bar p (b * V) 0 k) := by rw [ss_bar_0]
  rw [e0]
  refine ss_loop (fun n i => wY_bar_22 post (nI b) (nI V) (nI c) sC n (nI (ss_cnt (ss_A (ss_bar p (b * V) c)) i)) (nI i) (fun k => nI (ss_bar p (b * V) i k)) sA kA) c 0 (Nat.zero_le _)
    (fun n => br_t (nI_le (Nat.le_refl c) (by omega)) hp)
    (fun n i _ hi ih => ?_)
  have hvi := hv i
  have ei : vp_in (nI i) 6 := vp_in_nI (by omega) (by decide)
  have h55 : wY_bar_55 post (wY_bar_22 post (nI b) (nI V) (nI c) sC n) (nI b) (nI V) (nI (ss_cnt (ss_A (ss_bar p (b * V) c)) i)) (nI i) (nI c) sC (fun k => nI (ss_bar p (b * V) (i + 1) k)) sA kA := by
    refine sy_b55 hc hi (ss_bar_le hv i) ?_
    have e : ss_A (ss_bar p (b * V) (i + 1)) i = ss_A (ss_bar p (b * V) c) i := by
      show decide (0 < ss_bar p (b * V) (i + 1) i) = decide (0 < ss_bar p (b * V) c i)
      rw [ss_bar_c hi]
    rw [e]; exact ih
  refine br_f (nI_ge hi (by omega)) ⟨ei, pk_le (b * V) (p i * 100) (fun hz => ?_) (fun hz => ⟨ei, nm_r (e' := fun k => nI (ss_bar p (b * V) (i + 1) k)) ?_ h55⟩) (pk_mul b V) ?_ hb (by omega)⟩
  · rw [ss_bar_k hz] at h55; exact h55
  · exact (ss_up9 (x := 0) (by omega)).trans (ss_bar_z hz)
  · show nI 100 * nI (ss_bar p (b * V) i (nI i).toNatClampNeg) = _
    rw [nI_clamp (by omega), ss_bar_i, pk_mul, Nat.mul_comm]
theorem i_vc_bar {k : Nat} {u : SX} {v : SY} (I : i_Rel k u v) (hk : k + 3 ≤ 1536) (v1 : Int32) : wpX_bar (fun r u' => wpY_bar (fun r' v' => r' = r ∧ i_Rel (k + 3) u' v') v v1) u v1 := by
  obtain ⟨c, s, p, tA, sA, oA, rA, dA, yS, yK, hc, hs, hp, rfl, rfl⟩ := I
  by_cases h0 : v1 < 0
  · exact br_t h0 (br_t h0 ⟨rfl, ss_rel hc hs hp⟩)
  · obtain ⟨b, hb, rfl⟩ := nI_of h0
    by_cases h1 : b ≤ 100
    · have h : nI b ≤ 100 := nI_le (b := 100) h1 (by decide)
      have hsv := ss_sum_le (f := p) (c := c) (B := 999) (fun i _ => hp i)
      have hV2 : ss_sum p c ≤ 5994 := Nat.le_trans hsv (Nat.mul_le_mul hc (Nat.le_refl 999))
      have hbV : b * ss_sum p c ≤ 100 * 5994 := Nat.mul_le_mul h1 hV2
      exact br_f h0 (br_t h (sx_sum_polled hc ss_shf (sx_b23 hc (by omega) hp (br_f h0 (br_t h (sy_votes hc ss_shf (sy_b22 hc (by omega) hp ⟨rfl, ss_rel hc hs (ss_bar_le hp)⟩)))))))
    · have h : ¬ nI b ≤ 100 := nI_ge (a := 100) (by omega) hb
      exact br_f h0 (br_f h (br_f h0 (br_f h ⟨rfl, ss_rel hc hs hp⟩)))
