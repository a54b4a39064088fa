/-! majority -/
theorem ss_mx_1 {g : Nat → Nat} : ss_mx g 1 = 0 := by
  show (if g (ss_mx g 0) < g 0 then 0 else ss_mx g 0) = 0
  have e : ss_mx g 0 = 0 := rfl
  rw [e, if_neg (Nat.lt_irrefl _)]
theorem ss_mx_t {g : Nat → Nat} {i : Nat} (h : g (ss_mx g i) < g i) : ss_mx g (i + 1) = i := if_pos h
theorem ss_mx_f {g : Nat → Nat} {i : Nat} (h : g i ≤ g (ss_mx g i)) : ss_mx g (i + 1) = ss_mx g i := if_neg (by omega)
theorem ss_z_sh {c b : Nat} {a : Nat → Int32} {g : Nat → Nat} (h : ss_sh c a g) : ss_sh c (upd a b (nI 0)) (ss_z g b) := ss_sh_up h (fun _ _ => rfl)
theorem ss_z_le {g : Nat → Nat} {b c : Nat} (h : ∀ i, i < c → g i ≤ 62) : ∀ i, i < c → ss_z g b i ≤ 62 := fun i hi => by
  unfold ss_z
  by_cases e : i = b
  · rw [if_pos e]; exact Nat.zero_le _
  · rw [if_neg e]; exact h i hi
theorem sx_tg {post : Int32 → SX → Prop} {c : Nat} {sC : Int32} {pA tA sA oA rA dA : Nat → Int32} {g : Nat → Nat} (hc : c ≤ 6) (h0 : 0 < c) (h : ss_sh c sA g) (hg : ∀ i, i < c → g i ≤ 62) (hp : ∀ sh, ss_sh c sh (ss_z g (ss_mx g c)) → post (nI (g (ss_mx g c))) (nI c, sC, pA, tA, sh, oA, rA, dA)) : wpX_takeGreatest__shares post (nI c, sC, pA, tA, sA, oA, rA, dA) := by
  refine pk_loop (σ := Nat) (fun n i b => wX_takeGreatest__shares_4 post (nI c) sC pA tA sA oA rA dA n (nI b) (nI i)) (fun i b => 1 ≤ i ∧ b = ss_mx g i) c 1 0 h0 ⟨Nat.le_refl 1, ss_mx_1.symm⟩ (fun n b hb => ?_) (fun n i b hi hb k => ?_)
  · obtain ⟨_, rfl⟩ := hb
    have hl := ss_mx_lt (g := g) c h0
    have eb : vp_in (nI (ss_mx g c)) 6 := vp_in_nI (by omega) (by decide)
    exact br_t (nI_le (Nat.le_refl c) (by omega)) ⟨eb, nm_r (ss_sh_at h hc hl) ⟨eb, nm_r (e' := upd sA (ss_mx g c) (nI 0)) (by rw [nI_clamp (by omega)]; rfl) (hp _ (ss_z_sh h))⟩⟩
  · obtain ⟨h1, rfl⟩ := hb
    have hl := ss_mx_lt (g := g) i (by omega)
    have ei : vp_in (nI i) 6 := vp_in_nI (by omega) (by decide)
    have eb : vp_in (nI (ss_mx g i)) 6 := vp_in_nI (by omega) (by decide)
    have b1 := hg i hi
    have b2 := hg (ss_mx g i) (by omega)
    exact br_f (nI_ge hi (by omega)) ⟨ei, eb, pk_le (g i) (g (ss_mx g i)) (fun z => nm_r (nI_1 i) (k (ss_mx g i) ⟨by omega, (ss_mx_f z).symm⟩)) (fun z => nm_r (nI_1 i) (k i ⟨by omega, (ss_mx_t z).symm⟩)) (ss_sh_at h hc hi) (ss_sh_at h hc (by omega)) (by omega) (by omega)⟩
theorem sx_m41 {post : Int32 → SX → Prop} {c all : Nat} {sC : Int32} {pA tA oA rA dA : Nat → Int32} (hc : c ≤ 6) (hall : all ≤ 372) : ∀ (f : Nat) (g : Nat → Nat) (h k : Nat) (sA : Nat → Int32), k + f = c → ss_sh c sA g → (∀ i, i < c → g i ≤ 62) → h ≤ 62 * k → (∀ sh, post (nI (ss_mj c all f g h k)) (nI c, sC, pA, tA, sh, oA, rA, dA)) → wX_majority_41 post (nI all) (f + 1) (nI h) (nI (k + 1)) (nI c) sC pA tA sA oA rA dA := by
  intro f
  induction f with
  | zero =>
    intro g h k sA hkf hsh hg hh hp
    exact br_t (nI_lt (by omega) (by omega)) (hp sA)
  | succ f ih =>
    intro g h k sA hkf hsh hg hh hp
    have b1 := hg (ss_mx g c) (ss_mx_lt c (by omega))
    have e2 : nI (h + g (ss_mx g c)) * 2 = nI ((h + g (ss_mx g c)) * 2) := pk_mul _ 2
    refine br_f (nI_nlt (by omega) (by omega)) (sx_tg hc (by omega) hsh hg (fun sh hz => nm_r (nI_add _ _) (pk_le ((h + g (ss_mx g c)) * 2) all (fun z => nm_r (nI_1 (k + 1)) (ih (ss_z g (ss_mx g c)) (h + g (ss_mx g c)) (k + 1) sh (by omega) hz (ss_z_le hg) (by omega) (fun sh' => ?_))) (fun z => ?_) e2 rfl (by omega) (by omega))))
    · have e : ss_mj c all (f + 1) g h k = ss_mj c all f (ss_z g (ss_mx g c)) (h + g (ss_mx g c)) (k + 1) := if_neg (by omega)
      rw [← e]; exact hp sh'
    · have e : ss_mj c all (f + 1) g h k = k + 1 := if_pos (by omega)
      rw [← e]; exact hp sh
theorem sy_m23 {post : Int32 → SY → Prop} {c : Nat} {sC : Int32} {vA sA kA : Nat → Int32} {g : Nat → Nat} (hc : c ≤ 6) (h : ss_sh c sA g) (hp : ∃ n, wY_majority_51 post (nI (ss_sum g c)) (nI c) sC n 0 0 vA sA kA) : ∃ n, wY_majority_23 post (nI c) sC vA sA kA n 0 0 :=
  ss_loop (fun n i => wY_majority_23 post (nI c) sC vA sA kA n (nI (ss_sum g i)) (nI i)) c 0 (Nat.zero_le _)
    (fun n => br_t (nI_le (Nat.le_refl c) (by omega)) hp)
    (fun n i _ hi ih => br_f (nI_ge hi (by omega)) ⟨vp_in_nI (by omega) (by decide), nm_r (e' := nI (ss_sum g (i + 1))) (by rw [ss_sh_at h hc hi, nI_add]; rfl) (nm_r (nI_1 i) ih)⟩)
theorem sy_m68 {post : Int32 → SY → Prop} {J : Int32 → Int32 → (Nat → Int32) → (Nat → Int32) → (Nat → Int32) → Prop} {c h k : Nat} {x2 sC : Int32} {vA sA kA : Nat → Int32} {g : Nat → Nat} (hc : c ≤ 6) (h0 : 0 < c) (hs : ss_sh c sA g) (hg : ∀ i, i < c → g i ≤ 62) (hJ : ∀ sh, ss_sh c sh (ss_z g (ss_mx g c)) → J (nI (h + g (ss_mx g c))) (nI (k + 1)) vA sh kA) : ∃ n, wY_majority_68 post J x2 (nI h) (nI k) (nI c) sC vA sA kA n 0 1 := by
  refine pk_loop (σ := Nat) (fun n i b => wY_majority_68 post J x2 (nI h) (nI k) (nI c) sC vA sA kA n (nI b) (nI i)) (fun i b => 1 ≤ i ∧ b = ss_mx g i) c 1 0 h0 ⟨Nat.le_refl 1, ss_mx_1.symm⟩ (fun n b hb => ?_) (fun n i b hi hb kk => ?_)
  · obtain ⟨_, rfl⟩ := hb
    have hl := ss_mx_lt (g := g) c h0
    have eb : vp_in (nI (ss_mx g c)) 6 := vp_in_nI (by omega) (by decide)
    exact br_t (nI_le (Nat.le_refl c) (by omega)) ⟨eb, nm_r (e' := nI (h + g (ss_mx g c))) (by rw [ss_sh_at hs hc hl, nI_add]) ⟨eb, nm_r (e' := upd sA (ss_mx g c) (nI 0)) (by rw [nI_clamp (by omega)]; rfl) (nm_r (nI_1 k) (hJ _ (ss_z_sh hs)))⟩⟩
  · obtain ⟨h1, rfl⟩ := hb
    have hl := ss_mx_lt (g := g) i (by omega)
    have ei : vp_in (nI i) 6 := vp_in_nI (by omega) (by decide)
    have eb : vp_in (nI (ss_mx g i)) 6 := vp_in_nI (by omega) (by decide)
    have b1 := hg i hi
    have b2 := hg (ss_mx g i) (by omega)
    exact br_f (nI_ge hi (by omega)) ⟨ei, eb, pk_le (g i) (g (ss_mx g i)) (fun z => nm_r (nI_1 i) (kk (ss_mx g i) ⟨by omega, (ss_mx_f z).symm⟩)) (fun z => nm_r (nI_1 i) (kk i ⟨by omega, (ss_mx_t z).symm⟩)) (ss_sh_at hs hc hi) (ss_sh_at hs hc (by omega)) (by omega) (by omega)⟩
theorem sy_m51 {post : Int32 → SY → Prop} {c all : Nat} {sC : Int32} {vA kA : Nat → Int32} (hc : c ≤ 6) (h0 : 0 < c) (ha : 0 < all) (hall : all ≤ 372) : ∀ (f : Nat) (g : Nat → Nat) (h k : Nat) (sA : Nat → Int32), ss_sh c sA g → (∀ i, i < c → g i ≤ 62) → h + ss_sum g c = all → 2 * h ≤ all → ss_nz g c ≤ f → (∀ sh, post (nI (ss_mj c all f g h k)) (nI c, sC, vA, sh, kA)) → wY_majority_51 post (nI all) (nI c) sC (f + 1) (nI h) (nI k) vA sA kA := by
  intro f
  induction f with
  | zero =>
    intro g h k sA hsh hg hs h2 hn hp
    exact absurd (ss_mj_live h0 hs ha h2 hn).1 (Nat.lt_irrefl 0)
  | succ f ih =>
    intro g h k sA hsh hg hs h2 hn hp
    obtain ⟨_, l1, l2, l3⟩ := ss_mj_live h0 hs ha h2 hn
    have e2 : (2 : Int32) * nI h = nI (2 * h) := pk_mul 2 h
    have e3 : ¬ nI all < 2 * nI h := by rw [e2]; exact nI_nlt h2 (by omega)
    refine br_f e3 (br_f (nI_nle ha (by omega)) (sy_m68 hc h0 hsh hg (fun sh hz => ?_)))
    by_cases e : all < 2 * (h + g (ss_mx g c))
    · have em : ss_mj c all (f + 1) g h k = k + 1 := if_pos e
      have e4 : nI all < 2 * nI (h + g (ss_mx g c)) := by
        rw [show (2 : Int32) * nI (h + g (ss_mx g c)) = nI (2 * (h + g (ss_mx g c))) from pk_mul 2 _]
        exact nI_lt e (by omega)
      rw [em] at hp
      exact br_t e4 (hp sh)
    · have em : ss_mj c all (f + 1) g h k = ss_mj c all f (ss_z g (ss_mx g c)) (h + g (ss_mx g c)) (k + 1) := if_neg e
      rw [em] at hp
      exact ih (ss_z g (ss_mx g c)) (h + g (ss_mx g c)) (k + 1) sh hz (ss_z_le hg) l2 (by omega) (by omega) hp
theorem ss_mj_0 {c : Nat} : ∀ (f : Nat) (g : Nat → Nat) (k : Nat), 0 < c → (∀ i, i < c → g i = 0) → ss_mj c 0 f g 0 k = 0 := by
  intro f
  induction f with
  | zero => intro g k _ _; rfl
  | succ f ih =>
    intro g k h0 hg
    have e : g (ss_mx g c) = 0 := hg _ (ss_mx_lt c h0)
    show (if 0 < 2 * (0 + g (ss_mx g c)) then k + 1 else ss_mj c 0 f (ss_z g (ss_mx g c)) (0 + g (ss_mx g c)) (k + 1)) = 0
    rw [e, if_neg (by decide)]
    refine ih (ss_z g (ss_mx g c)) (k + 1) h0 (fun i hi => ?_)
    unfold ss_z
    by_cases e2 : i = ss_mx g c
    · rw [if_pos e2]
    · rw [if_neg e2]; exact hg i hi
theorem sy_maj {post : Int32 → SY → Prop} {c : Nat} {sC : Int32} {vA sA kA : Nat → Int32} {g : Nat → Nat} (hc : c ≤ 6) (h : ss_sh c sA g) (hg : ∀ i, i < c → g i ≤ 62) (hp : ∀ sh, post (nI (ss_mj c (ss_sum g c) c g 0 0)) (nI c, sC, vA, sh, kA)) : ∃ n, wY_majority_51 post (nI (ss_sum g c)) (nI c) sC n 0 0 vA sA kA := by
  have hall : ss_sum g c ≤ 372 := Nat.le_trans (ss_sum_le hg) (Nat.mul_le_mul hc (Nat.le_refl 62))
  by_cases ha : 0 < ss_sum g c
  · obtain ⟨i, hi, _⟩ := ss_sum_pos c ha
    exact ⟨c + 1, sy_m51 hc (by omega) ha hall c g 0 0 sA h hg (by omega) (by omega) (ss_cnt_le _ c) hp⟩
  · have e0 : ss_sum g c = 0 := by omega
    have em : ss_mj c (ss_sum g c) c g 0 0 = 0 := by
      rw [e0]
      by_cases hc0 : 0 < c
      · exact ss_mj_0 c g 0 hc0 (ss_sum_0 e0)
      · rw [show c = 0 from by omega]; rfl
    rw [em] at hp
    rw [e0]
    exact ⟨1, br_f (by decide) (br_t (by decide) (hp sA))⟩
