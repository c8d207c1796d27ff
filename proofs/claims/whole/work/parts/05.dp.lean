/-! least costs, ways and weights: what each side's arrays satisfy locally, and that then they agree -/
def bq_l (st : Int32) (co lo : Nat → Int32) (a b : Nat) : Nat → Int32
  | 0 => st
  | t + 1 => if co (a + t) + lo (b + t) < bq_l st co lo a b t then co (a + t) + lo (b + t) else bq_l st co lo a b t
def bq_w (st : Int32) (co lo mn : Nat → Int32) (a b : Nat) : Nat → Int32
  | 0 => 0
  | t + 1 => if co (a + t) + lo (b + t) = (if co (a + t) + lo (b + t) < bq_l st co lo a b t then co (a + t) + lo (b + t) else bq_l st co lo a b t)
      then (if co (a + t) + lo (b + t) < bq_l st co lo a b t then 0 else bq_w st co lo mn a b t) + mn (b + t)
      else (if co (a + t) + lo (b + t) < bq_l st co lo a b t then 0 else bq_w st co lo mn a b t)
def bq_s (ra : Nat → Int32) (su : Nat → Int64) (a b : Nat) : Nat → Int64
  | 0 => 0
  | t + 1 => bq_s ra su a b t + (ra (a + t)).toInt64 * su (b + t)
theorem bq_l_cg {st : Int32} {co lo lo' : Nat → Int32} {a b b' : Nat} : ∀ t, (∀ i, i < t → lo (b + i) = lo' (b' + i)) → bq_l st co lo a b t = bq_l st co lo' a b' t := by
  intro t
  induction t with
  | zero => intro _; rfl
  | succ t ih =>
    intro h
    simp only [bq_l]
    rw [ih (fun i hi => h i (by omega)), h t (by omega)]
theorem bq_w_cg {st : Int32} {co lo lo' mn mn' : Nat → Int32} {a b b' : Nat} : ∀ t, (∀ i, i < t → lo (b + i) = lo' (b' + i)) → (∀ i, i < t → mn (b + i) = mn' (b' + i)) → bq_w st co lo mn a b t = bq_w st co lo' mn' a b' t := by
  intro t
  induction t with
  | zero => intro _ _; rfl
  | succ t ih =>
    intro h h2
    simp only [bq_w]
    rw [ih (fun i hi => h i (by omega)) (fun i hi => h2 i (by omega)), bq_l_cg t (fun i hi => h i (by omega)), h t (by omega), h2 t (by omega)]
theorem bq_s_cg {ra : Nat → Int32} {su su' : Nat → Int64} {a b b' : Nat} : ∀ t, (∀ i, i < t → su (b + i) = su' (b' + i)) → bq_s ra su a b t = bq_s ra su' a b' t := by
  intro t
  induction t with
  | zero => intro _; rfl
  | succ t ih =>
    intro h
    simp only [bq_s]
    rw [ih (fun i hi => h i (by omega)), h t (by omega)]
/-- component's l, w and reference's m, n agree where the reference's is finite; N leaves below -/
def bq_RL (N : Nat) (l w m n : Int32) : Prop := (∃ k, k + 18 ≤ 18 * N ∧ l = nI k ∧ m = nI k ∧ w = n) ∨ (m = nI 1000 ∧ ∃ k, 1000000 ≤ k ∧ k ≤ 5000000 ∧ l = nI k)
def bq_RB (N : Nat) (l w m n : Int32) : Prop := (∃ k, k + 9 ≤ 18 * N ∧ l = nI k ∧ m = nI k ∧ w = n) ∨ (m = nI 1000 ∧ ∃ k, 1000000 ≤ k ∧ k ≤ 2000000 ∧ l = nI k)
theorem bq_stp {N kc : Nat} (hN : N ≤ 7) (hk : kc ≤ 9) {L W M Z l w m z : Int32} (h : bq_RL N l w m z) (h' : bq_RB N L W M Z) :
    bq_RB N (if nI kc + l < L then nI kc + l else L)
      (if nI kc + l = (if nI kc + l < L then nI kc + l else L) then (if nI kc + l < L then 0 else W) + w else (if nI kc + l < L then 0 else W))
      (if nI kc + m < M then nI kc + m else M)
      (if nI kc + m = (if nI kc + m < M then nI kc + m else M) then (if nI kc + m < M then 0 else Z) + z else (if nI kc + m < M then 0 else Z)) := by
  rcases h with ⟨k, hk1, e1, e2, e3⟩ | ⟨e2, k, hk1, hk2, e1⟩
  · rcases h' with ⟨q, hq, f1, f2, f3⟩ | ⟨f2, q, hq1, hq2, f1⟩
    · rw [e1, e2, e3, f1, f2, f3, nI_add]
      by_cases c : kc + k < q
      · have cX : nI (kc + k) < nI q := nI_lt c (by omega)
        simp only [if_pos cX]
        exact Or.inl ⟨kc + k, by omega, rfl, rfl, rfl⟩
      · have cX : ¬ nI (kc + k) < nI q := nI_nlt (by omega) (by omega)
        simp only [if_neg cX]
        exact Or.inl ⟨q, hq, rfl, rfl, rfl⟩
    · rw [e1, e2, e3, f1, f2, nI_add]
      have cX : nI (kc + k) < nI q := nI_lt (by omega) (by omega)
      have cY : nI (kc + k) < nI 1000 := nI_lt (by omega) (by omega)
      simp only [if_pos cX, if_pos cY]
      exact Or.inl ⟨kc + k, by omega, rfl, rfl, rfl⟩
  · rcases h' with ⟨q, hq, f1, f2, f3⟩ | ⟨f2, q, hq1, hq2, f1⟩
    · rw [e1, e2, f1, f2, f3, nI_add, nI_add]
      have cX : ¬ nI (kc + k) < nI q := nI_nlt (by omega) (by omega)
      have cY : ¬ nI (kc + 1000) < nI q := nI_nlt (by omega) (by omega)
      have dX : ¬ nI (kc + k) = nI q := fun e => by
        rw [nI_eq (by omega) (by omega)] at e
        omega
      have dY : ¬ nI (kc + 1000) = nI q := fun e => by
        rw [nI_eq (by omega) (by omega)] at e
        omega
      simp only [if_neg cX, if_neg cY, if_neg dX, if_neg dY]
      exact Or.inl ⟨q, hq, rfl, rfl, rfl⟩
    · rw [e1, e2, f1, f2, nI_add, nI_add]
      have cY : ¬ nI (kc + 1000) < nI 1000 := nI_nlt (by omega) (by omega)
      refine Or.inr ⟨if_neg cY, ?_⟩
      by_cases c : kc + k < q
      · have cX : nI (kc + k) < nI q := nI_lt c (by omega)
        exact ⟨kc + k, by omega, by omega, if_pos cX⟩
      · have cX : ¬ nI (kc + k) < nI q := nI_nlt (by omega) (by omega)
        exact ⟨q, hq1, hq2, if_neg cX⟩
theorem bq_lw {N : Nat} (hN : N ≤ 7) {co le wa lo mn : Nat → Int32} {a b b' : Nat} (hc : ∀ t, t < 4 → ∃ k, k ≤ 9 ∧ co (a + t) = nI k)
    (h : ∀ t, t < 4 → bq_RL N (le (b + t)) (wa (b + t)) (lo (b' + t)) (mn (b' + t))) :
    ∀ t, t ≤ 4 → bq_RB N (bq_l 2000000 co le a b t) (bq_w 2000000 co le wa a b t) (bq_l 1000 co lo a b' t) (bq_w 1000 co lo mn a b' t) := by
  intro t
  induction t with
  | zero => intro _; exact Or.inr ⟨rfl, 2000000, by omega, by omega, rfl⟩
  | succ t ih =>
    intro ht
    obtain ⟨kc, hk, ec⟩ := hc t (by omega)
    have := bq_stp hN hk (h t (by omega)) (ih (by omega))
    rw [← ec] at this
    exact this
theorem bq_fin {N : Nat} (hN : N ≤ 7) {co lo : Nat → Int32} {a b : Nat} (hc : ∀ t, t < 4 → ∃ k, k ≤ 9 ∧ co (a + t) = nI k)
    (h : ∀ t, t < 4 → (∃ k, k + 18 ≤ 18 * N ∧ lo (b + t) = nI k) ∨ lo (b + t) = nI 1000) :
    ∀ t, t ≤ 4 → ((∃ k, k + 9 ≤ 18 * N ∧ bq_l 1000 co lo a b t = nI k) ∨ (bq_l 1000 co lo a b t = nI 1000 ∧ ∀ i, i < t → lo (b + i) = nI 1000)) := by
  intro t
  induction t with
  | zero => intro _; exact Or.inr ⟨rfl, fun i hi => absurd hi (by omega)⟩
  | succ t ih =>
    intro ht
    obtain ⟨kc, hk, ec⟩ := hc t (by omega)
    simp only [bq_l]
    rw [ec]
    rcases h t (by omega) with ⟨k, hk1, e⟩ | e
    · rw [e, nI_add]
      rcases ih (by omega) with ⟨q, hq, f⟩ | ⟨f, _⟩
      · rw [f]
        by_cases c : kc + k < q
        · exact Or.inl ⟨kc + k, by omega, if_pos (nI_lt c (by omega))⟩
        · exact Or.inl ⟨q, hq, if_neg (nI_nlt (by omega) (by omega))⟩
      · rw [f]
        exact Or.inl ⟨kc + k, by omega, if_pos (nI_lt (by omega) (by omega))⟩
    · rw [e, nI_add]
      rcases ih (by omega) with ⟨q, hq, f⟩ | ⟨f, g⟩
      · rw [f]
        exact Or.inl ⟨q, hq, if_neg (nI_nlt (by omega) (by omega))⟩
      · rw [f]
        refine Or.inr ⟨if_neg (nI_nlt (by omega) (by omega)), fun i hi => ?_⟩
        by_cases c : i = t
        · rw [c]
          exact e
        · exact g i (by omega)
def bq_cap (ok : Bool) (b1 b2 : Int32) : Int32 := if 1000 < (if ok = true then 0 else 1000 : Int64) + b1.toInt64 + b2.toInt64 then 1000 else ((if ok = true then 0 else 1000 : Int64) + b1.toInt64 + b2.toInt64).toInt32
def bq_mny (ok : Bool) (b1 b2 : Int32) : Int32 := ((if ok = true then 1 else 0 : Int64) * b1.toInt64 * b2.toInt64).toInt32
theorem bq_capN {k1 k2 : Nat} (h1 : k1 ≤ 1000) (h2 : k2 ≤ 1000) (ok : Bool) : bq_cap ok (nI k1) (nI k2) = nI (if (if ok = true then 0 else 1000) + k1 + k2 ≤ 1000 then (if ok = true then 0 else 1000) + k1 + k2 else 1000) := by
  have e : (if ok = true then 0 else 1000 : Int64) = lN (if ok = true then 0 else 1000) := by cases ok <;> rfl
  have b : (if ok = true then 0 else 1000) ≤ 1000 := by cases ok <;> decide
  rw [bq_cap, e, nI_l (by omega), nI_l (by omega), lN_add, lN_add]
  generalize (if ok = true then 0 else 1000) = w at *
  have c1 : (1000 : Int64) = lN 1000 := rfl
  by_cases c : w + k1 + k2 ≤ 1000
  · rw [if_pos c, if_neg (by rw [c1, lN_lt (by omega) (by omega)]; omega), lN_i]
  · rw [if_neg c, if_pos (by rw [c1, lN_lt (by omega) (by omega)]; omega)]
    rfl
theorem bq_mny1 (b1 b2 : Int32) : bq_mny true b1 b2 = b1 * b2 := by
  rw [bq_mny, if_pos rfl, Int64.one_mul, Int64.toInt32_mul, Int32.toInt32_toInt64, Int32.toInt32_toInt64]
theorem bq_node {N1 N2 N : Nat} (hN : N1 + N2 = N) (h7 : N ≤ 7) (p1 : 1 ≤ N1) (p2 : 1 ≤ N2) (ok : Bool) {L1 W1 M1 Z1 L2 W2 M2 Z2 : Int32} (h1 : bq_RB N1 L1 W1 M1 Z1) (h2 : bq_RB N2 L2 W2 M2 Z2) :
    bq_RL N ((if ok = true then 0 else 1000000) + L1 + L2) (W1 * W2) (bq_cap ok M1 M2) (bq_mny ok Z1 Z2) := by
  have e0 : (if ok = true then 0 else 1000000 : Int32) = nI (if ok = true then 0 else 1000000) := by cases ok <;> rfl
  rw [e0]
  rcases h1 with ⟨k1, a1, l1, m1, w1⟩ | ⟨m1, k1, a1, b1, l1⟩
  · rcases h2 with ⟨k2, a2, l2, m2, w2⟩ | ⟨m2, k2, a2, b2, l2⟩
    · rw [l1, m1, l2, m2, w1, w2, nI_add, nI_add, bq_capN (by omega) (by omega)]
      cases ok
      · refine Or.inr ⟨congrArg nI ?_, 1000000 + k1 + k2, by omega, by omega, rfl⟩
        show (if 1000 + k1 + k2 ≤ 1000 then 1000 + k1 + k2 else 1000) = 1000
        by_cases c : 1000 + k1 + k2 ≤ 1000
        · rw [if_pos c]
          omega
        · rw [if_neg c]
      · refine Or.inl ⟨0 + k1 + k2, by omega, rfl, congrArg nI ?_, (bq_mny1 _ _).symm⟩
        show (if 0 + k1 + k2 ≤ 1000 then 0 + k1 + k2 else 1000) = 0 + k1 + k2
        rw [if_pos (by omega)]
    · rw [l1, m1, l2, m2, nI_add, nI_add, bq_capN (by omega) (by omega)]
      refine Or.inr ⟨congrArg nI ?_, (if ok = true then 0 else 1000000) + k1 + k2, by omega, ?_, rfl⟩
      · generalize (if ok = true then 0 else 1000) = w
        by_cases c : w + k1 + 1000 ≤ 1000
        · rw [if_pos c]
          omega
        · rw [if_neg c]
      · have : (if ok = true then 0 else 1000000) ≤ 1000000 := by cases ok <;> decide
        omega
  · rcases h2 with ⟨k2, a2, l2, m2, w2⟩ | ⟨m2, k2, a2, b2, l2⟩
    · rw [l1, m1, l2, m2, nI_add, nI_add, bq_capN (by omega) (by omega)]
      refine Or.inr ⟨congrArg nI ?_, (if ok = true then 0 else 1000000) + k1 + k2, by omega, ?_, rfl⟩
      · generalize (if ok = true then 0 else 1000) = w
        by_cases c : w + 1000 + k2 ≤ 1000
        · rw [if_pos c]
          omega
        · rw [if_neg c]
      · have : (if ok = true then 0 else 1000000) ≤ 1000000 := by cases ok <;> decide
        omega
    · rw [l1, m1, l2, m2, nI_add, nI_add, bq_capN (by omega) (by omega)]
      refine Or.inr ⟨congrArg nI ?_, (if ok = true then 0 else 1000000) + k1 + k2, by omega, ?_, rfl⟩
      · generalize (if ok = true then 0 else 1000) = w
        by_cases c : w + 1000 + 1000 ≤ 1000
        · rw [if_pos c]
          omega
        · rw [if_neg c]
      · have : (if ok = true then 0 else 1000000) ≤ 1000000 := by cases ok <;> decide
        omega
/-- the component's least and ways, settled everywhere -/
def bq_XS (c : Nat) (on tw : Nat → Nat) (ok : Nat → Nat → Bool) (co le wa : Nat → Int32) : Prop :=
  ∀ z, bq_V c z → ∀ s, s < 4 →
    (z < 8 → le (4 * z + s) = (if ok z s = true then 0 else 1000000) ∧ wa (4 * z + s) = 1) ∧
    (8 ≤ z → le (4 * z + s) = (if ok z s = true then 0 else 1000000) + bq_l 2000000 co le (4 * s) (4 * on z) 4 + bq_l 2000000 co le (4 * s) (4 * tw z) 4 ∧
      wa (4 * z + s) = bq_w 2000000 co le wa (4 * s) (4 * on z) 4 * bq_w 2000000 co le wa (4 * s) (4 * tw z) 4)
/-- the reference's at node z -/
def bq_YZ (on tw : Nat → Nat) (ok : Nat → Nat → Bool) (co ra lo mn : Nat → Int32) (su : Nat → Int64) (z : Nat) : Prop :=
  ∀ s, s < 4 →
    (z < 8 → lo (4 * z + s) = (if ok z s = true then 0 else 1000) ∧ mn (4 * z + s) = (if ok z s = true then 1 else 0) ∧ su (4 * z + s) = (if ok z s = true then 1 else 0)) ∧
    (8 ≤ z → lo (4 * z + s) = bq_cap (ok z s) (bq_l 1000 co lo (4 * s) (4 * on z) 4) (bq_l 1000 co lo (4 * s) (4 * tw z) 4) ∧
      mn (4 * z + s) = bq_mny (ok z s) (bq_w 1000 co lo mn (4 * s) (4 * on z) 4) (bq_w 1000 co lo mn (4 * s) (4 * tw z) 4) ∧
      su (4 * z + s) = (if ok z s = true then 1 else 0) * bq_s ra su (4 * s) (4 * on z) 4 * bq_s ra su (4 * s) (4 * tw z) 4)
def bq_YS (c : Nat) (on tw : Nat → Nat) (ok : Nat → Nat → Bool) (co ra lo mn : Nat → Int32) (su : Nat → Int64) : Prop :=
  ∀ z, bq_V c z → bq_YZ on tw ok co ra lo mn su z
/-- the component's weights -/
def bq_XW (c : Nat) (on tw : Nat → Nat) (ok : Nat → Nat → Bool) (ra : Nat → Int32) (we : Nat → Int64) : Prop :=
  ∀ z, bq_V c z → ∀ s, s < 4 →
    (z < 8 → we (4 * z + s) = (if ok z s = true then 1 else 0)) ∧
    (8 ≤ z → we (4 * z + s) = (if ok z s = true then 1 else 0) * bq_s ra we (4 * s) (4 * on z) 4 * bq_s ra we (4 * s) (4 * tw z) 4)
section
variable {c top : Nat} {par on tw : Nat → Nat} {ok : Nat → Nat → Bool} {co ra le wa lo mn : Nat → Int32} {su we : Nat → Int64}
theorem bq_v7 (H : bq_T c top par on tw) {z : Nat} (hz : bq_V c z) (h8 : 8 ≤ z) : z < 7 + c := by
  have := bq_c7 H
  rcases hz with h | h <;> omega
theorem bq_hc (hco : ∀ i, i < 16 → ∃ k, k ≤ 9 ∧ co i = nI k) {s : Nat} (hs : s < 4) : ∀ t, t < 4 → ∃ k, k ≤ 9 ∧ co (4 * s + t) = nI k := fun t ht => hco (4 * s + t) (by omega)
theorem bq_rel (H : bq_T c top par on tw) (hco : ∀ i, i < 16 → ∃ k, k ≤ 9 ∧ co i = nI k) (hX : bq_XS c on tw ok co le wa) (hY : bq_YS c on tw ok co ra lo mn su) :
    ∀ z, bq_V c z → ∀ s, s < 4 → bq_RL (bq_n c top par z) (le (4 * z + s)) (wa (4 * z + s)) (lo (4 * z + s)) (mn (4 * z + s)) := by
  refine bq_dn H _ ?_ ?_
  · intro z hz h8 s hs
    have p := bq_n_pos H hz
    obtain ⟨a1, a2⟩ := (hX z hz s hs).1 h8
    obtain ⟨b1, b2, _⟩ := ((hY z hz) s hs).1 h8
    rw [a1, a2, b1, b2]
    cases ok z s
    · exact Or.inr ⟨rfl, 1000000, by omega, by omega, rfl⟩
    · exact Or.inl ⟨0, by omega, rfl, rfl, rfl⟩
  · intro z hz h8 i1 i2 s hs
    have h7 := bq_v7 H hz h8
    obtain ⟨v1, n1, _⟩ := bq_on H h8 h7
    obtain ⟨v2, n2, _⟩ := bq_tw H h8 h7
    obtain ⟨a1, a2⟩ := (hX z hz s hs).2 h8
    obtain ⟨b1, b2, _⟩ := ((hY z hz) s hs).2 h8
    rw [a1, a2, b1, b2]
    exact bq_node (bq_n_add H h8 h7).symm (bq_n_le z) (bq_n_pos H v1) (bq_n_pos H v2) (ok z s)
      (bq_lw (bq_n_le _) (bq_hc hco hs) i1 4 (Nat.le_refl _)) (bq_lw (bq_n_le _) (bq_hc hco hs) i2 4 (Nat.le_refl _))
theorem bq_RLf {N : Nat} {l w m n : Int32} (h : bq_RL N l w m n) : (∃ k, k + 18 ≤ 18 * N ∧ m = nI k) ∨ m = nI 1000 := by
  rcases h with ⟨k, a, _, b, _⟩ | ⟨a, _⟩
  · exact Or.inl ⟨k, a, b⟩
  · exact Or.inr a
theorem bq_exf (H : bq_T c top par on tw) (hco : ∀ i, i < 16 → ∃ k, k ≤ 9 ∧ co i = nI k) (hX : bq_XS c on tw ok co le wa) (hY : bq_YS c on tw ok co ra lo mn su)
    (ok1 : ∀ z, bq_V c z → z < 8 → ∃ s, s < 4 ∧ ok z s = true) (ok2 : ∀ z, bq_V c z → 8 ≤ z → ∀ s, s < 4 → ok z s = true) :
    ∀ z, bq_V c z → ∃ s, s < 4 ∧ ∃ k, k + 18 ≤ 18 * bq_n c top par z ∧ lo (4 * z + s) = nI k := by
  have R := bq_rel H hco hX hY
  refine bq_dn H _ ?_ ?_
  · intro z hz h8
    have p := bq_n_pos H hz
    obtain ⟨s, hs, h⟩ := ok1 z hz h8
    refine ⟨s, hs, 0, by omega, ?_⟩
    obtain ⟨b1, _⟩ := ((hY z hz) s hs).1 h8
    rw [b1, if_pos h]
    rfl
  · intro z hz h8 i1 i2
    have h7 := bq_v7 H hz h8
    obtain ⟨v1, n1, _⟩ := bq_on H h8 h7
    obtain ⟨v2, n2, _⟩ := bq_tw H h8 h7
    obtain ⟨b1, _⟩ := ((hY z hz) 0 (by omega)).2 h8
    have hN := bq_n_add H h8 h7
    have h77 : bq_n c top par z ≤ 7 := bq_n_le z
    have q1 := bq_n_pos H v1
    have q2 := bq_n_pos H v2
    have F : ∀ k, bq_V c k → (∃ s, s < 4 ∧ ∃ j, j + 18 ≤ 18 * bq_n c top par k ∧ lo (4 * k + s) = nI j) → ∃ j, j + 9 ≤ 18 * bq_n c top par k ∧ bq_l 1000 co lo (4 * 0) (4 * k) 4 = nI j := by
      intro k vk ⟨s, hs, j, hj, e⟩
      have n7 : bq_n c top par k ≤ 7 := bq_n_le k
      rcases bq_fin n7 (bq_hc hco (s := 0) (by omega)) (fun t ht => bq_RLf (R k vk t ht)) 4 (Nat.le_refl _) with r | ⟨_, r⟩
      · exact r
      · have r' := r s hs
        rw [e, nI_eq (by omega) (by omega)] at r'
        omega
    obtain ⟨j1, a1, f1⟩ := F _ v1 i1
    obtain ⟨j2, a2, f2⟩ := F _ v2 i2
    refine ⟨0, by omega, j1 + j2, by omega, ?_⟩
    rw [b1, f1, f2, bq_capN (by omega) (by omega), ok2 z hz h8 0 (by omega)]
    refine congrArg nI ?_
    show (if 0 + j1 + j2 ≤ 1000 then 0 + j1 + j2 else 1000) = j1 + j2
    rw [if_pos (by omega)]
    omega
theorem bq_weq (H : bq_T c top par on tw) (hX : bq_XW c on tw ok ra we) (hY : bq_YS c on tw ok co ra lo mn su) :
    ∀ z, bq_V c z → ∀ s, s < 4 → we (4 * z + s) = su (4 * z + s) := by
  refine bq_dn H _ ?_ ?_
  · intro z hz h8 s hs
    rw [(hX z hz s hs).1 h8, (((hY z hz) s hs).1 h8).2.2]
  · intro z hz h8 i1 i2 s hs
    rw [(hX z hz s hs).2 h8, (((hY z hz) s hs).2 h8).2.2, bq_s_cg 4 i1, bq_s_cg 4 i2]
end
/-- the least of four, from a start -/
def bq_m4 (st : Int32) (lo : Nat → Int32) (b : Nat) : Nat → Int32
  | 0 => st
  | t + 1 => if lo (b + t) < bq_m4 st lo b t then lo (b + t) else bq_m4 st lo b t
/-- the least cost of the whole: the component's value l, the reference's m -/
def bq_RM (l m : Int32) : Prop := (∃ k, k ≤ 108 ∧ l = nI k ∧ m = nI k) ∨ (m = nI 1000 ∧ ∃ k, 1000000 ≤ k ∧ k ≤ 5000000 ∧ l = nI k)
theorem bq_RM_of {N : Nat} (hN : N ≤ 7) {l w m n : Int32} (h : bq_RL N l w m n) : bq_RM l m := by
  rcases h with ⟨k, a, b, e, _⟩ | h
  · exact Or.inl ⟨k, by omega, b, e⟩
  · exact Or.inr h
theorem bq_RM_min {L M l m : Int32} (h' : bq_RM L M) (h : bq_RM l m) : bq_RM (if l < L then l else L) (if m < M then m else M) := by
  rcases h with ⟨k, a, e1, e2⟩ | ⟨e2, k, a, b, e1⟩
  · rcases h' with ⟨q, r, f1, f2⟩ | ⟨f2, q, r1, r2, f1⟩
    · rw [e1, e2, f1, f2]
      by_cases c : k < q
      · rw [if_pos (nI_lt c (by omega))]
        exact Or.inl ⟨k, a, rfl, rfl⟩
      · rw [if_neg (nI_nlt (by omega) (by omega))]
        exact Or.inl ⟨q, r, rfl, rfl⟩
    · rw [e1, e2, f1, f2, if_pos (nI_lt (by omega) (by omega)), if_pos (nI_lt (by omega) (by omega))]
      exact Or.inl ⟨k, a, rfl, rfl⟩
  · rcases h' with ⟨q, r, f1, f2⟩ | ⟨f2, q, r1, r2, f1⟩
    · rw [e1, e2, f1, f2, if_neg (nI_nlt (by omega) (by omega)), if_neg (nI_nlt (by omega) (by omega))]
      exact Or.inl ⟨q, r, rfl, rfl⟩
    · rw [e1, e2, f1, f2, if_neg (nI_nlt (Nat.le_refl _) (by omega))]
      refine Or.inr ⟨rfl, ?_⟩
      by_cases c : k < q
      · exact ⟨k, a, b, if_pos (nI_lt c (by omega))⟩
      · exact ⟨q, r1, r2, if_neg (nI_nlt (by omega) (by omega))⟩
theorem bq_RM_0 {l m : Int32} (h : bq_RM l m) : bq_RM l (if m < nI 1000 then m else nI 1000) := by
  rcases h with ⟨k, a, e1, e2⟩ | ⟨e2, h⟩
  · rw [e2, if_pos (nI_lt (by omega) (by omega))]
    exact Or.inl ⟨k, a, e1, rfl⟩
  · rw [e2, if_neg (nI_nlt (Nat.le_refl _) (by omega))]
    exact Or.inr ⟨rfl, h⟩
