/-! answers: digits, least, ways, states, weight, best place -/
theorem bq_dg_lt (code s : Nat) : bq_dg code s < 4 := Nat.mod_lt _ (by decide)
theorem bq_dg_sum {code : Nat} (h : code < 256) : bq_dg code 0 * 64 + bq_dg code 1 * 16 + bq_dg code 2 * 4 + bq_dg code 3 = code := by
  show code / 64 % 4 * 64 + code / 16 % 4 * 16 + code / 4 % 4 * 4 + code / 1 % 4 = code
  omega
def bq_ok (c site : Nat) (code : Nat → Nat) (pin ps : Int32) (z s : Nat) : Bool := (decide (nI z ≠ pin) || decide (nI s = ps)) && (decide (c ≤ z) || decide (bq_dg (code z) site = s))
theorem bq_nm1 {z : Nat} (h : z < 2 ^ 31) : nI z ≠ -1 := by
  intro q
  have := nI_toInt h
  rw [q, show (-1 : Int32).toInt = -1 by decide] at this
  omega
theorem bq_ok_u {c site : Nat} {code : Nat → Nat} {ps : Int32} {z s : Nat} (hz : z < 2 ^ 31) : bq_ok c site code (-1) ps z s = (decide (c ≤ z) || decide (bq_dg (code z) site = s)) := by
  rw [bq_ok, decide_eq_true (bq_nm1 hz), Bool.true_or, Bool.true_and]
theorem bq_m4_fin {lo : Nat → Int32} {b : Nat} : ∀ t, (∀ i, i < t → (∃ k, k ≤ 108 ∧ lo (b + i) = nI k) ∨ lo (b + i) = nI 1000) →
    ((∃ k, k ≤ 108 ∧ bq_m4 1000 lo b t = nI k) ∨ (bq_m4 1000 lo b t = nI 1000 ∧ ∀ i, i < t → lo (b + i) = nI 1000)) := by
  intro t
  induction t with
  | zero => intro _; exact Or.inr ⟨rfl, fun i hi => absurd hi (by omega)⟩
  | succ t ih =>
    intro h
    have ih' := ih (fun i hi => h i (by omega))
    simp only [bq_m4]
    rcases h t (by omega) with ⟨k, hk, e⟩ | e
    · rw [e]
      rcases ih' with ⟨q, hq, f⟩ | ⟨f, _⟩
      · rw [f]
        by_cases c : k < q
        · exact Or.inl ⟨k, hk, if_pos (nI_lt c (by omega))⟩
        · exact Or.inl ⟨q, hq, if_neg (nI_nlt (by omega) (by omega))⟩
      · rw [f]
        exact Or.inl ⟨k, hk, if_pos (nI_lt (by omega) (by omega))⟩
    · rw [e]
      rcases ih' with ⟨q, hq, f⟩ | ⟨f, g⟩
      · rw [f]
        exact Or.inl ⟨q, hq, if_neg (nI_nlt (by omega) (by omega))⟩
      · rw [f]
        refine Or.inr ⟨if_neg (nI_nlt (Nat.le_refl _) (by omega)), fun i hi => ?_⟩
        by_cases c : i = t
        · rw [c]
          exact e
        · exact g i (by omega)
theorem bq_Rm {le lo : Nat → Int32} {b : Nat} (h : ∀ s, s < 4 → bq_RM (le (b + s)) (lo (b + s))) : bq_RM (bq_m4 (le b) le (b + 1) 3) (bq_m4 1000 lo b 4) := by
  have h0 := bq_RM_0 (h 0 (by omega))
  have h1 := bq_RM_min h0 (h 1 (by omega))
  have h2 := bq_RM_min h1 (h 2 (by omega))
  exact bq_RM_min h2 (h 3 (by omega))
/-- r is the least cost as the component gets it: from settled arrays -/
def bq_Ev (c top : Nat) (on tw : Nat → Nat) (code : Nat → Nat) (co : Nat → Int32) (site : Nat) (pin ps r : Int32) : Prop :=
  ∃ le wa, bq_XS c on tw (bq_ok c site code pin ps) co le wa ∧ r = bq_m4 (le (4 * top)) le (4 * top + 1) 3
section
variable {c top site : Nat} {par on tw code : Nat → Nat} {pin ps r : Int32} {co ra le wa lo mn : Nat → Int32} {su we : Nat → Int64}
theorem bq_EvR (H : bq_T c top par on tw) (hco : ∀ i, i < 16 → ∃ k, k ≤ 9 ∧ co i = nI k) (hE : bq_Ev c top on tw code co site pin ps r)
    (hY : bq_YS c on tw (bq_ok c site code pin ps) co ra lo mn su) : bq_RM r (bq_m4 1000 lo (4 * top) 4) := by
  obtain ⟨le, wa, hX, e⟩ := hE
  rw [e]
  exact bq_Rm (fun s hs => bq_RM_of (bq_n_le top) (bq_rel H hco hX hY top (bq_vt H) s hs))
theorem bq_okl (H : bq_T c top par on tw) (z : Nat) (hz : bq_V c z) (h8 : z < 8) : ∃ s, s < 4 ∧ bq_ok c site code (-1) ps z s = true := by
  refine ⟨bq_dg (code z) site, bq_dg_lt _ _, ?_⟩
  rw [bq_ok_u (by omega), decide_eq_true (rfl : bq_dg (code z) site = bq_dg (code z) site), Bool.or_true]
theorem bq_oki (H : bq_T c top par on tw) (z : Nat) (hz : bq_V c z) (h8 : 8 ≤ z) (s : Nat) : bq_ok c site code (-1) ps z s = true := by
  have := bq_c7 H
  have h14 := bq_lt14 H hz
  rw [bq_ok_u (by omega), decide_eq_true (show c ≤ z by omega), Bool.true_or]
theorem bq_EvF (H : bq_T c top par on tw) (hco : ∀ i, i < 16 → ∃ k, k ≤ 9 ∧ co i = nI k) (hE : bq_Ev c top on tw code co site (-1) ps r)
    (hY : bq_YS c on tw (bq_ok c site code (-1) ps) co ra lo mn su) : ∃ k, k ≤ 108 ∧ r = nI k ∧ bq_m4 1000 lo (4 * top) 4 = nI k := by
  rcases bq_EvR H hco hE hY with h | ⟨e, _⟩
  · exact h
  · exfalso
    obtain ⟨le, wa, hX, _⟩ := hE
    have R := bq_rel H hco hX hY
    have n7 : bq_n c top par top ≤ 7 := bq_n_le top
    obtain ⟨s, hs, k, hk, f⟩ := bq_exf H hco hX hY (fun z hz h8 => bq_okl H z hz h8) (fun z hz h8 s _ => bq_oki H z hz h8 s) top (bq_vt H)
    rcases bq_m4_fin (lo := lo) (b := 4 * top) 4 (fun i hi => by
      rcases bq_RLf (R top (bq_vt H) i hi) with ⟨q, a, b⟩ | a
      · exact Or.inl ⟨q, by omega, b⟩
      · exact Or.inr a) with ⟨q, a, b⟩ | ⟨_, a⟩
    · rw [b, nI_eq (by omega) (by omega)] at e
      omega
    · have := a s hs
      rw [f, nI_eq (by omega) (by omega)] at this
      omega
/-- ways: the sum over the best states -/
def bq_cn (best : Int32) (le wa : Nat → Int32) (b : Nat) : Nat → Int32
  | 0 => 0
  | t + 1 => if le (b + t) = best then bq_cn best le wa b t + wa (b + t) else bq_cn best le wa b t
theorem bq_cn_eq {N k b : Nat} (hN : N ≤ 7) (hk : k ≤ 108) (h : ∀ s, s < 4 → bq_RL N (le (b + s)) (wa (b + s)) (lo (b + s)) (mn (b + s))) :
    ∀ t, t ≤ 4 → bq_cn (nI k) le wa b t = bq_cn (nI k) lo mn b t := by
  intro t
  induction t with
  | zero => intro _; rfl
  | succ t ih =>
    intro ht
    simp only [bq_cn]
    rw [ih (by omega)]
    rcases h t (by omega) with ⟨q, a, e1, e2, e3⟩ | ⟨e2, q, a, b, e1⟩
    · rw [e1, e2, e3]
    · rw [e1, e2, if_neg, if_neg]
      · intro f
        rw [nI_eq (by omega) (by omega)] at f
        omega
      · intro f
        rw [nI_eq (by omega) (by omega)] at f
        omega
theorem bq_RM_eq {k : Nat} (hk : k ≤ 108) {l m : Int32} (h : bq_RM l m) : (l = nI k) ↔ (m = nI k) := by
  rcases h with ⟨q, a, e1, e2⟩ | ⟨e2, q, a, b, e1⟩
  · rw [e1, e2]
  · rw [e1, e2, nI_eq (by omega) (by omega), nI_eq (by omega) (by omega)]
    omega
end
theorem bq_or1 : ∀ t, t < 7 → ∀ m, m < 2 ^ t → (nI m ||| ((1 : Int32) <<< (nI t &&& 31))) = nI (m + 2 ^ t) ∧ nI m + ((1 : Int32) <<< (nI t &&& 31)) = nI (m + 2 ^ t) := by decide +kernel
/-- the component's choice among the totals S: node and total -/
def bq_bp (c : Nat) (S : Nat → Int32) : Nat → Int32 × Int32
  | 0 => (-1, 1000000)
  | t + 1 => if t < c ∨ (8 ≤ t ∧ t < 7 + c) then (if S t < (bq_bp c S t).2 then (nI t, S t) else bq_bp c S t) else bq_bp c S t
