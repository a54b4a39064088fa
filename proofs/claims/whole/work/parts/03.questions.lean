/-! next: the list whose share is greater with one seat more -/
theorem ss_next_none {rule c n : Nat} {v : Nat → Nat} (h : ss_pick rule v (ss_q rule c v n) c = none) (i : Nat) : ¬ ss_q rule c v n i < ss_q rule c v (n + 1) i := by
  rw [ss_q_none h]; omega
theorem ss_next_some {rule c n b : Nat} {v : Nat → Nat} (h : ss_pick rule v (ss_q rule c v n) c = some b) (i : Nat) : ss_q rule c v n i < ss_q rule c v (n + 1) i ↔ i = b := by
  rw [ss_q_some h]
  show ss_q rule c v n i < (if i = b then ss_q rule c v n i + 1 else ss_q rule c v n i) ↔ i = b
  by_cases e : i = b
  · rw [if_pos e]; exact ⟨fun _ => e, fun _ => by omega⟩
  · rw [if_neg e]; exact ⟨fun z => by omega, fun z => absurd z e⟩
/-! fall, moved: gains -/
def ss_gain (a b : Nat → Nat) (c : Nat) : Nat := ss_sum (fun i => b i - a i) c
theorem ss_gain_pos {a b : Nat → Nat} {c : Nat} : 0 < ss_gain a b c ↔ ∃ i, i < c ∧ a i < b i := by
  constructor
  · intro h
    obtain ⟨i, hi, hp⟩ := ss_sum_pos c h
    exact ⟨i, hi, by have : 0 < b i - a i := hp; omega⟩
  · intro ⟨i, hi, hp⟩
    have h1 := ss_sum_mem (f := fun i => b i - a i) c hi
    have h2 : b i - a i ≤ ss_gain a b c := h1
    omega
/-! majority: the greatest taken one by one -/
def ss_mx (g : Nat → Nat) : Nat → Nat
  | 0 => 0
  | i + 1 => if g (ss_mx g i) < g i then i else ss_mx g i
theorem ss_mx_lt {g : Nat → Nat} : ∀ c, 0 < c → ss_mx g c < c := by
  intro c
  induction c with
  | zero => intro h; omega
  | succ c ih =>
    intro _
    show (if g (ss_mx g c) < g c then c else ss_mx g c) < c + 1
    by_cases e : g (ss_mx g c) < g c
    · rw [if_pos e]; omega
    · rw [if_neg e]
      cases c with
      | zero => exact Nat.zero_lt_one
      | succ c => have := ih (by omega); omega
theorem ss_mx_ge {g : Nat → Nat} : ∀ c i, i < c → g i ≤ g (ss_mx g c) := by
  intro c
  induction c with
  | zero => intro i h; omega
  | succ c ih =>
    intro i hi
    show g i ≤ g (if g (ss_mx g c) < g c then c else ss_mx g c)
    by_cases e : g (ss_mx g c) < g c
    · rw [if_pos e]
      by_cases e2 : i = c
      · subst e2; exact Nat.le_refl _
      · have := ih i (by omega); omega
    · rw [if_neg e]
      by_cases e2 : i = c
      · subst e2; omega
      · exact ih i (by omega)
def ss_z (g : Nat → Nat) (b : Nat) : Nat → Nat := fun i => if i = b then 0 else g i
/-- taken so far: h; k lists; f turns are left -/
def ss_mj (c all : Nat) : Nat → (Nat → Nat) → Nat → Nat → Nat
  | 0, _, _, _ => 0
  | f + 1, g, h, k => if all < 2 * (h + g (ss_mx g c)) then k + 1 else ss_mj c all f (ss_z g (ss_mx g c)) (h + g (ss_mx g c)) (k + 1)
def ss_nz (g : Nat → Nat) (c : Nat) : Nat := ss_cnt (fun i => decide (0 < g i)) c
theorem ss_z_sum {g : Nat → Nat} {b c : Nat} (hb : b < c) : ss_sum (ss_z g b) c + g b = ss_sum g c := by
  have := ss_sum_upd (f := g) (b := b) 0 c hb
  exact this
theorem ss_z_nz {g : Nat → Nat} {b c : Nat} (hb : b < c) (h : 0 < g b) : ss_nz (ss_z g b) c + 1 = ss_nz g c := by
  refine (ss_cnt_add (P := fun i => decide (0 < ss_z g b i)) (Q := fun i => decide (0 < g i)) (b := b) ?_ ?_ c hb (fun i _ hi => ?_)).symm
  · show decide (0 < (if b = b then 0 else g b)) = false
    rw [if_pos rfl]; rfl
  · exact decide_eq_true h
  · show decide (0 < g i) = decide (0 < (if i = b then 0 else g i))
    rw [if_neg hi]
/-- where there are seats, the reference's loop and the turns agree: the turns don't run out -/
theorem ss_mj_live {c all f h : Nat} {g : Nat → Nat} (hc : 0 < c) (hs : h + ss_sum g c = all) (ha : 0 < all) (h2 : 2 * h ≤ all) (hn : ss_nz g c ≤ f) : 0 < f ∧ 0 < g (ss_mx g c) ∧ h + g (ss_mx g c) + ss_sum (ss_z g (ss_mx g c)) c = all ∧ ss_nz (ss_z g (ss_mx g c)) c ≤ f - 1 := by
  have hb := ss_mx_lt (g := g) c hc
  obtain ⟨i, hi, hp⟩ := ss_sum_pos (f := g) c (by omega)
  have hm := ss_mx_ge (g := g) c i hi
  have hg : 0 < g (ss_mx g c) := by omega
  have hz := ss_z_sum (g := g) hb
  have hq := ss_z_nz (g := g) hb hg
  exact ⟨by omega, hg, by omega, by omega⟩
