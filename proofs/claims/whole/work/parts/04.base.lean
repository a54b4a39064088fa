/-! rows of kit/rows -/
theorem pk_us {f : Nat → Int32} {k : Nat} {x : Int32} : upd f k x k = x := if_pos rfl
theorem pk_un {f : Nat → Int32} {k j : Nat} {x : Int32} (h : j ≠ k) : upd f k x j = f j := if_neg h
theorem pk_sub {a b : Nat} (h : b ≤ a) : nI a - nI b = nI (a - b) := by
  obtain ⟨c, rfl⟩ : ∃ c, a = c + b := ⟨a - b, by omega⟩
  rw [← nI_add, Int32.add_sub_cancel, Nat.add_sub_cancel]
theorem pk_m1 (n : Nat) : nI (n + 1) + (-1) = nI n := by
  rw [← nI_1, Int32.add_assoc, show (1 : Int32) + (-1) = 0 from rfl, Int32.add_zero]
theorem pk_mul (a b : Nat) : nI a * nI b = nI (a * b) := (Int32.ofNat_mul a b).symm
theorem pk_div {a d : Nat} (ha : a < 2 ^ 31) (h0 : 0 < d) (hd : d < 2 ^ 31) : nI a / nI d = nI (a / d) := by
  apply Int32.toInt_inj.mp
  rw [lg_idiv_nonneg (by rw [nI_toInt ha]; omega) (by rw [nI_toInt hd]; omega), nI_toInt ha, nI_toInt hd, nI_toInt (Nat.lt_of_le_of_lt (Nat.div_le_self a d) ha)]
  first | rfl | exact (Int.natCast_ediv _ _).symm
theorem pk_rem {a d : Nat} (ha : a < 2 ^ 31) (h0 : 0 < d) (hd : d < 2 ^ 31) : nI a - nI a / nI d * nI d = nI (a % d) := by
  rw [pk_div ha h0 hd, pk_mul, pk_sub (Nat.div_mul_le_self a d)]
  exact congrArg nI (by have := Nat.div_add_mod' a d; omega)
theorem pk_ix (x : Int32) {n : Nat} (hn : n < 2 ^ 31) : x < 0 ∨ nI n ≤ x ∨ ∃ j : Nat, j < n ∧ x = nI j := by
  by_cases h : x < 0
  · exact Or.inl h
  · obtain ⟨j, hj, rfl⟩ := nI_of h
    by_cases h2 : j < n
    · exact Or.inr (Or.inr ⟨j, h2, rfl⟩)
    · exact Or.inr (Or.inl (nI_le (by omega) hj))
theorem pk_le {x y : Int32} {A B : Prop} (a b : Nat) (f : a ≤ b → A) (g : b < a → B) (hx : x = nI a := by rfl) (hy : y = nI b := by rfl) (ha : a < 2 ^ 31 := by omega) (hb : b < 2 ^ 31 := by omega) : (x ≤ y → A) ∧ (¬ x ≤ y → B) := by
  subst hx hy
  rw [nI_leI ha hb]
  exact ⟨f, fun z => g (by omega)⟩
theorem pk_lt {x y : Int32} {A B : Prop} (a b : Nat) (f : a < b → A) (g : b ≤ a → B) (hx : x = nI a := by rfl) (hy : y = nI b := by rfl) (ha : a < 2 ^ 31 := by omega) (hb : b < 2 ^ 31 := by omega) : (x < y → A) ∧ (¬ x < y → B) := by
  subst hx hy
  rw [nI_ltI ha hb]
  exact ⟨f, fun z => g (by omega)⟩
theorem pk_eq {x y : Int32} {A B : Prop} (a b : Nat) (f : a = b → A) (g : a ≠ b → B) (hx : x = nI a := by rfl) (hy : y = nI b := by rfl) (ha : a < 2 ^ 31 := by omega) (hb : b < 2 ^ 31 := by omega) : (x = y → A) ∧ (¬ x = y → B) := by
  subst hx hy
  rw [nI_eq ha hb]
  exact ⟨f, g⟩
theorem pk_in {x : Int32} (n N : Nat) (h : n < N) (hx : x = nI n := by rfl) (hN : N < 2 ^ 31 := by omega) : vp_in x N := by
  subst hx
  exact vp_in_nI h hN
theorem pk_cl {x : Int32} (n : Nat) (hx : x = nI n := by rfl) (h : n < 2 ^ 31 := by omega) : x.toNatClampNeg = n := by
  subst hx
  exact nI_clamp h
theorem pk_lT {n : Nat} (h : n < 2 ^ 63) : (lN n).toInt = (n : Int) := lg_ofNat_toInt h
theorem pk_lLT {a b : Nat} (ha : a < 2 ^ 63) (hb : b < 2 ^ 63) : lN a < lN b ↔ a < b := by
  rw [Int64.lt_iff_toInt_lt, pk_lT ha, pk_lT hb]; omega
theorem pk_lLE {a b : Nat} (ha : a < 2 ^ 63) (hb : b < 2 ^ 63) : lN a ≤ lN b ↔ a ≤ b := by
  rw [Int64.le_iff_toInt_le, pk_lT ha, pk_lT hb]; omega
theorem pk_lEQ {a b : Nat} (ha : a < 2 ^ 63) (hb : b < 2 ^ 63) : lN a = lN b ↔ a = b := by
  rw [← Int64.toInt_inj, pk_lT ha, pk_lT hb]; omega
theorem pk_loop {σ : Type} (W : Nat → Nat → σ → Prop) (I : Nat → σ → Prop) (e i0 : Nat) (s : σ) (hi : i0 ≤ e) (h0 : I i0 s) (hx : ∀ n s, I e s → W (n + 1) e s)
    (hs : ∀ n i s, i < e → I i s → (∀ s', I (i + 1) s' → W n (i + 1) s') → W (n + 1) i s) : ∃ n, W n i0 s :=
  ⟨e + 1, loop_i W I e hx hs (e + 1) i0 s hi (by omega) h0⟩
theorem ek_if {c d A B : Prop} (e : c ↔ d) (f : d → A) (g : ¬ d → B) : (c → A) ∧ (¬ c → B) :=
  ⟨fun z => f (e.mp z), fun z => g (fun y => z (e.mpr y))⟩
def bt (x : Int32) (i : Nat) : Bool := x.toBitVec.getLsbD i
theorem b_ext {x y : Int32} (h : ∀ i, i < 32 → bt x i = bt y i) : x = y := Int32.toBitVec_inj.mp (BitVec.eq_of_getLsbD_eq (fun i hi => h i hi))
theorem b_or (x y : Int32) (i : Nat) : bt (x ||| y) i = (bt x i || bt y i) := by unfold bt; rw [Int32.toBitVec_or, BitVec.getLsbD_or]
theorem b_and (x y : Int32) (i : Nat) : bt (x &&& y) i = (bt x i && bt y i) := by unfold bt; rw [Int32.toBitVec_and, BitVec.getLsbD_and]
theorem b_big {x : Int32} {i : Nat} (h : 32 ≤ i) : bt x i = false := BitVec.getLsbD_of_ge _ _ h
theorem b_0 (i : Nat) : bt 0 i = false := BitVec.getLsbD_zero
theorem s_l : ∀ n, n < 32 → ((nI n &&& 31).toBitVec.smod 32).toNat = n := by decide +kernel
theorem b_shl (n : Nat) (hn : n < 32) (x : Int32) {i : Nat} (hi : i < 32) : bt (x <<< (nI n &&& 31)) i = (decide (n ≤ i) && bt x (i - n)) := by
  unfold bt
  rw [Int32.toBitVec_shiftLeft]
  show (x.toBitVec <<< ((nI n &&& 31).toBitVec.smod 32).toNat).getLsbD i = _
  rw [s_l n hn, BitVec.getLsbD_shiftLeft]
  rcases Nat.lt_or_ge i n with h | h
  · simp [h, Nat.not_le.mpr h]
  · simp [hi, h, Nat.not_lt.mpr h]
theorem b_sshr (n : Nat) (hn : n < 32) (x : Int32) {i : Nat} (hi : i < 32) : bt (x >>> (nI n &&& 31)) i = if n + i < 32 then bt x (n + i) else bt x 31 := by
  unfold bt
  rw [Int32.toBitVec_shiftRight]
  show (x.toBitVec.sshiftRight ((nI n &&& 31).toBitVec.smod 32).toNat).getLsbD i = _
  rw [s_l n hn, BitVec.getLsbD_sshiftRight, BitVec.msb_eq_getLsbD_last]
  simp [hi]
/-! own rows: loops, codes, branches -/
theorem ss_loop (W : Nat → Nat → Prop) (e i0 : Nat) (hi : i0 ≤ e) (hx : ∀ n, W (n + 1) e) (hs : ∀ n i, i0 ≤ i → i < e → W n (i + 1) → W (n + 1) i) : ∃ n, W n i0 := by
  have h : ∀ d i, i0 ≤ i → i + d = e → W (d + 1) i := by
    intro d
    induction d with
    | zero => intro i _ h; have e' : i = e := by omega
              rw [e']; exact hx 0
    | succ d ih => intro i h0 h; exact hs (d + 1) i h0 (by omega) (ih (i + 1) (by omega) (by omega))
  exact ⟨e - i0 + 1, h (e - i0) i0 (Nat.le_refl _) (by omega)⟩
theorem ss_cnt_f {P : Nat → Bool} {i : Nat} (h : P i = false) : ss_cnt P (i + 1) = ss_cnt P i := by
  show ss_cnt P i + (if P i = true then 1 else 0) = ss_cnt P i
  rw [h]; rfl
theorem ss_cnt_t {P : Nat → Bool} {i : Nat} (h : P i = true) : ss_cnt P (i + 1) = ss_cnt P i + 1 := by
  show ss_cnt P i + (if P i = true then 1 else 0) = ss_cnt P i + 1
  rw [h]; rfl
theorem ss_sum_mono {f : Nat → Nat} {a : Nat} : ∀ b, a ≤ b → ss_sum f a ≤ ss_sum f b := by
  intro b
  induction b with
  | zero => intro h; have e : a = 0 := by omega
            rw [e]; exact Nat.le_refl _
  | succ b ih =>
    intro h
    by_cases e : a = b + 1
    · rw [e]; exact Nat.le_refl _
    · have h1 := ih (by omega)
      have h2 : ss_sum f (b + 1) = ss_sum f b + f b := rfl
      omega
/-- an array that shows these numbers below c -/
def ss_sh (c : Nat) (a : Nat → Int32) (g : Nat → Nat) : Prop := ∀ i, i < c → a i = nI (g i)
theorem ss_sh_at {c : Nat} {a : Nat → Int32} {g : Nat → Nat} (h : ss_sh c a g) {i : Nat} (hc : c ≤ 6) (hi : i < c) : a (nI i).toNatClampNeg = nI (g i) := by
  rw [nI_clamp (by omega)]; exact h i hi
theorem ss_sh_up {c b x : Nat} {a : Nat → Int32} {g g' : Nat → Nat} (h : ss_sh c a g) (hg : ∀ i, i < c → g' i = if i = b then x else g i) : ss_sh c (upd a b (nI x)) g' := by
  intro i hi
  rw [hg i hi]
  by_cases e : i = b
  · rw [if_pos e, e]; exact pk_us
  · rw [if_neg e, pk_un e]; exact h i hi
/-- one more cell written -/
theorem ss_sh_s {i : Nat} {a : Nat → Int32} {g : Nat → Nat} (h : ss_sh i a g) : ss_sh (i + 1) (upd a i (nI (g i))) g := by
  intro j hj
  by_cases e : j = i
  · rw [e]; exact pk_us
  · rw [pk_un e]; exact h j (by omega)
theorem ss_sh_0 {a : Nat → Int32} {g : Nat → Nat} : ss_sh 0 a g := fun i hi => absurd hi (Nat.not_lt_zero i)
theorem ss_sh_le {c d : Nat} {a : Nat → Int32} {g : Nat → Nat} (hd : d ≤ c) (h : ss_sh c a g) : ss_sh d a g := fun i hi => h i (by omega)
theorem ss_sh_eq {c : Nat} {a : Nat → Int32} {g g' : Nat → Nat} (h : ss_sh c a g) (e : ∀ i, i < c → g' i = g i) : ss_sh c a g' := fun i hi => by rw [e i hi]; exact h i hi
theorem ss_upd_f {p : Nat → Nat} {k x : Nat} : upd (fun i => nI (p i)) k (nI x) = fun i => nI (if i = k then x else p i) := by
  funext i
  by_cases e : i = k
  · rw [e, if_pos rfl]; exact pk_us
  · rw [if_neg e]; exact pk_un e
/-! the bit of a mask -/
theorem ss_bt1 : ∀ i, i < 32 → bt 1 i = decide (i = 0) := by decide +kernel
theorem ss_bit (x : Int32) {i : Nat} (hi : i < 32) : ((x >>> (nI i &&& 31)) &&& 1) = 0 ↔ bt x i = false := by
  constructor
  · intro h
    have h1 : bt ((x >>> (nI i &&& 31)) &&& 1) 0 = bt 0 0 := by rw [h]
    rw [b_and, b_0, b_sshr i hi x (by omega), ss_bt1 0 (by omega), if_pos (by omega)] at h1
    have h2 : (bt x (i + 0) && true) = false := h1
    rw [Bool.and_true] at h2
    exact h2
  · intro h
    refine b_ext (fun j hj => ?_)
    rw [b_and, b_0, b_sshr i hi x hj, ss_bt1 j hj]
    by_cases e : j = 0
    · subst e
      rw [if_pos (by omega)]
      show (bt x i && true) = false
      rw [h]; rfl
    · rw [decide_eq_false e, Bool.and_false]
theorem ss_bor (x : Int32) {i j : Nat} (hi : i < 32) (hj : j < 32) : bt (x ||| ((1 : Int32) <<< (nI i &&& 31))) j = (bt x j || decide (j = i)) := by
  rw [b_or, b_shl i hi 1 hj]
  by_cases e : i ≤ j
  · rw [decide_eq_true e, ss_bt1 (j - i) (by omega), Bool.true_and]
    by_cases e2 : j = i
    · rw [decide_eq_true e2, decide_eq_true (by omega)]
    · rw [decide_eq_false e2, decide_eq_false (by omega)]
  · rw [decide_eq_false e, Bool.false_and, decide_eq_false (by omega)]
/-! the comparison of two quotients, as the class and as the reference do it -/
def ss_gt (t b t' b' : Nat) : Bool := if b = 0 ∧ b' = 0 then decide (t' < t) else decide (t' * b < t * b')
theorem ss_gr_gt (r v k w l : Nat) : ss_gr r v k w l = ss_gt (ss_tp r v) (ss_dv r k) (ss_tp r w) (ss_dv r l) := by
  unfold ss_gr ss_gt
  by_cases e : ss_dv r k = 0 ∧ ss_dv r l = 0
  · rw [if_pos e, if_pos e]
    unfold ss_tp
    by_cases e3 : r = 3
    · rw [if_pos e3, if_pos e3]
      have h : w * w < v * v ↔ w < v := Nat.mul_self_lt_mul_self_iff
      by_cases e4 : w < v
      · rw [decide_eq_true e4, decide_eq_true (h.mpr e4)]
      · rw [decide_eq_false e4, decide_eq_false (fun z => e4 (h.mp z))]
    · rw [if_neg e3, if_neg e3]
  · rw [if_neg e, if_neg e]
def ss_wt (r v k : Nat) : Nat := if r = 3 ∧ 0 < k then v * v else v
def ss_gy (r v k w l : Nat) : Bool := if ss_dv r k = 0 ∧ ss_dv r l = 0 then decide (w < v) else decide (ss_wt r w l * ss_dv r k < ss_wt r v k * ss_dv r l)
theorem ss_pos_sq {v x : Nat} : 0 < v * x ↔ 0 < v * v * x := by
  by_cases hv : v = 0
  · subst hv; simp
  · by_cases hx : x = 0
    · subst hx; simp
    · exact ⟨fun _ => Nat.mul_pos (Nat.mul_pos (by omega) (by omega)) (by omega), fun _ => Nat.mul_pos (by omega) (by omega)⟩
theorem ss_dv3 (k : Nat) : ss_dv 3 k = k * (k + 1) := rfl
theorem ss_gy_gr (r v k w l : Nat) : ss_gy r v k w l = ss_gr r v k w l := by
  unfold ss_gy ss_gr
  by_cases e : ss_dv r k = 0 ∧ ss_dv r l = 0
  · rw [if_pos e, if_pos e]
  · rw [if_neg e, if_neg e]
    by_cases e3 : r = 3
    · subst e3
      have hk : ∀ x k, 0 < k → ss_wt 3 x k = x * x := fun x k h => if_pos ⟨rfl, h⟩
      have hn : ∀ x, ss_wt 3 x 0 = x := fun x => if_neg (fun z => absurd z.2 (Nat.lt_irrefl 0))
      have ht : ∀ x, ss_tp 3 x = x * x := fun x => if_pos rfl
      rw [ht, ht, ss_dv3, ss_dv3]
      by_cases ek : 0 < k
      · rw [hk v k ek]
        by_cases el : 0 < l
        · rw [hk w l el]
        · have l0 : l = 0 := by omega
          subst l0
          simp
      · have k0 : k = 0 := by omega
        subst k0
        rw [hn v, Nat.zero_mul, Nat.mul_zero, Nat.mul_zero]
        exact decide_eq_decide.mpr ss_pos_sq
    · unfold ss_wt ss_tp
      rw [if_neg e3, if_neg e3, if_neg (fun z => e3 z.1), if_neg (fun z => e3 z.1)]
/-! bounds -/
theorem ss_tp_lt {r v : Nat} (h : v ≤ 2999) : ss_tp r v < 2 ^ 31 := by
  unfold ss_tp
  by_cases e : r = 3
  · rw [if_pos e]
    have := Nat.mul_le_mul h h
    omega
  · rw [if_neg e]; omega
theorem ss_wt_lt {r v k : Nat} (h : v ≤ 2999) : ss_wt r v k < 2 ^ 31 := by
  unfold ss_wt
  by_cases e : r = 3 ∧ 0 < k
  · rw [if_pos e]
    have := Nat.mul_le_mul h h
    omega
  · rw [if_neg e]; omega
theorem ss_dv_lt {r k : Nat} (h : k ≤ 31) : ss_dv r k < 2 ^ 31 := by
  unfold ss_dv
  have h1 : k * (k + 1) ≤ 31 * 32 := Nat.mul_le_mul h (by omega)
  by_cases e0 : r = 0
  · rw [if_pos e0]; omega
  · rw [if_neg e0]
    by_cases e1 : r = 1
    · rw [if_pos e1]; omega
    · rw [if_neg e1]
      by_cases e2 : r = 2
      · rw [if_pos e2]
        by_cases ek : k = 0
        · rw [if_pos ek]; decide
        · rw [if_neg ek]; omega
      · rw [if_neg e2]
        by_cases e3 : r = 3
        · rw [if_pos e3]; omega
        · rw [if_neg e3]; omega
theorem ss_m63 {a b : Nat} (ha : a < 2 ^ 31) (hb : b < 2 ^ 31) : a * b < 2 ^ 63 := by
  have := Nat.mul_le_mul (Nat.le_of_lt ha) (Nat.le_of_lt hb)
  omega
/-! the greatest open quotient, one list on -/
theorem ss_pick_z {r i : Nat} {v g : Nat → Nat} (h : v i ≤ 0) : ss_pick r v g (i + 1) = ss_pick r v g i := by
  rw [ss_pick, if_neg (by omega)]
theorem ss_pick_n {r i : Nat} {v g : Nat → Nat} (h : 0 < v i) (hp : ss_pick r v g i = none) : ss_pick r v g (i + 1) = some i := by
  rw [ss_pick, if_pos h, hp]
theorem ss_pick_1 {r i b : Nat} {v g : Nat → Nat} (h : 0 < v i) (hp : ss_pick r v g i = some b) (hg : ss_gr r (v i) (g i) (v b) (g b) = true) : ss_pick r v g (i + 1) = some i := by
  rw [ss_pick, if_pos h, hp]
  show (if ss_gr r (v i) (g i) (v b) (g b) = true then some i else some b) = some i
  rw [if_pos hg]
theorem ss_pick_2 {r i b : Nat} {v g : Nat → Nat} (h : 0 < v i) (hp : ss_pick r v g i = some b) (hg : ss_gr r (v i) (g i) (v b) (g b) = false) : ss_pick r v g (i + 1) = some b := by
  rw [ss_pick, if_pos h, hp]
  show (if ss_gr r (v i) (g i) (v b) (g b) = true then some i else some b) = some b
  rw [if_neg (by rw [hg]; decide)]
/-! the scan of the rests, one list on -/
theorem ss_sc_z {P : Nat → Bool} {r : Nat → Nat} {i : Nat} (h : P i = false) : ss_sc P r (i + 1) = ss_sc P r i := by
  rw [ss_sc, if_neg (by rw [h]; decide)]
theorem ss_sc_n {P : Nat → Bool} {r : Nat → Nat} {i : Nat} (h : P i = true) (hp : ss_sc P r i = none) : ss_sc P r (i + 1) = some i := by
  rw [ss_sc, if_pos h, hp]
theorem ss_sc_1 {P : Nat → Bool} {r : Nat → Nat} {i b : Nat} (h : P i = true) (hp : ss_sc P r i = some b) (hr : r b < r i) : ss_sc P r (i + 1) = some i := by
  rw [ss_sc, if_pos h, hp]
  show (if r b < r i then some i else some b) = some i
  rw [if_pos hr]
theorem ss_sc_2 {P : Nat → Bool} {r : Nat → Nat} {i b : Nat} (h : P i = true) (hp : ss_sc P r i = some b) (hr : r i ≤ r b) : ss_sc P r (i + 1) = some b := by
  rw [ss_sc, if_pos h, hp]
  show (if r b < r i then some i else some b) = some b
  rw [if_neg (by omega)]
/-! codes of the scans -/
def ss_cd (z : Int32) : Option Nat → Int32
  | none => z
  | some b => nI b
def ss_tn (r : Nat) (v : Nat → Nat) : Option Nat → Int64
  | none => lN 0
  | some b => lN (ss_tp r (v b))
def ss_bn (r : Nat) (g : Nat → Nat) : Option Nat → Int64
  | none => lN 1
  | some b => lN (ss_dv r (g b))
theorem ss_S_q {r c n : Nat} {v : Nat → Nat} (h : r < 5) : ss_S r c v n = ss_q r c v n := by
  unfold ss_S; rw [if_pos h]
theorem ss_S_z {r c n : Nat} {v : Nat → Nat} (h : ss_sum v c = 0 ∨ n = 0) (i : Nat) : ss_S r c v n i = 0 := by
  unfold ss_S
  by_cases h5 : r < 5
  · rw [if_pos h5]
    cases h with
    | inl h => exact ss_q_0 (ss_sum_0 h) n i
    | inr h => rw [h]; rfl
  · rw [if_neg h5, if_pos h]
theorem ss_S_R {r c n : Nat} {v : Nat → Nat} (h5 : 5 ≤ r) (h0 : 0 < ss_sum v c) (hn : 0 < n) : ss_S r c v n = ss_R r c v n := by
  unfold ss_S
  rw [if_neg (by omega), if_neg (by omega)]
theorem ss_S_congr {r c n : Nat} {v v' : Nat → Nat} (h5 : r < 5) (h : ∀ j, j < c → v j = v' j) : ss_S r c v n = ss_S r c v' n := by
  rw [ss_S_q h5, ss_S_q h5]; exact ss_q_congr h n
