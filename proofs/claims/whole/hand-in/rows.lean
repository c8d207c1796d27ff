section
theorem pk_us {f : Nat → Int32} {k : Nat} {x : Int32} : upd f k x k = x := if_pos rfl
theorem pk_un {f : Nat → Int32} {k j : Nat} {x : Int32} (h : j ≠ k) : upd f k x j = f j := if_neg h
theorem pk_uLs {f : Nat → Int64} {k : Nat} {x : Int64} : vp_updL f k x k = x := if_pos rfl
theorem pk_uLn {f : Nat → Int64} {k j : Nat} {x : Int64} (h : j ≠ k) : vp_updL f k x j = f j := if_neg h
theorem pk_sub {a b : Nat} (h : b ≤ a) : nI a - nI b = nI (a - b) := by
  obtain ⟨c, rfl⟩ : ∃ c, a = c + b := ⟨a - b, by omega⟩
  rw [← nI_add, Int32.add_sub_cancel, Nat.add_sub_cancel]
theorem pk_m1 (n : Nat) : nI (n + 1) + (-1) = nI n := by
  rw [← nI_1, Int32.add_assoc, show (1 : Int32) + (-1) = 0 from rfl, Int32.add_zero]
theorem pk_mul (a b : Nat) : nI a * nI b = nI (a * b) := (Int32.ofNat_mul a b).symm
theorem pk_ix (x : Int32) {n : Nat} (hn : n < 2 ^ 31) : x < 0 ∨ nI n ≤ x ∨ ∃ j : Nat, j < n ∧ x = nI j := by
  by_cases h : x < 0
  · exact Or.inl h
  · obtain ⟨j, hj, rfl⟩ := nI_of h
    by_cases h2 : j < n
    · exact Or.inr (Or.inr ⟨j, h2, rfl⟩)
    · exact Or.inr (Or.inl (nI_le (by omega) hj))
theorem pk_le {x y : Int32} {A B : Prop} (a b : Nat) (f : a ≤ b → A) (g : b < a → B) (hx : x = nI a := by rfl) (hy : y = nI b := by rfl) (ha : a < 2 ^ 31 := by omega) (hb : b < 2 ^ 31 := by omega) : (x ≤ y → A) ∧ (¬ x ≤ y → B) := by
  subst hx hy
  rw [nI_leI ha hb]
  exact ⟨f, fun z => g (by omega)⟩
theorem pk_lt {x y : Int32} {A B : Prop} (a b : Nat) (f : a < b → A) (g : b ≤ a → B) (hx : x = nI a := by rfl) (hy : y = nI b := by rfl) (ha : a < 2 ^ 31 := by omega) (hb : b < 2 ^ 31 := by omega) : (x < y → A) ∧ (¬ x < y → B) := by
  subst hx hy
  rw [nI_ltI ha hb]
  exact ⟨f, fun z => g (by omega)⟩
theorem pk_eq {x y : Int32} {A B : Prop} (a b : Nat) (f : a = b → A) (g : a ≠ b → B) (hx : x = nI a := by rfl) (hy : y = nI b := by rfl) (ha : a < 2 ^ 31 := by omega) (hb : b < 2 ^ 31 := by omega) : (x = y → A) ∧ (¬ x = y → B) := by
  subst hx hy
  rw [nI_eq ha hb]
  exact ⟨f, g⟩
theorem pk_in {x : Int32} (n N : Nat) (h : n < N) (hx : x = nI n := by rfl) (hN : N < 2 ^ 31 := by omega) : vp_in x N := by
  subst hx
  exact vp_in_nI h hN
theorem pk_cl {x : Int32} (n : Nat) (hx : x = nI n := by rfl) (h : n < 2 ^ 31 := by omega) : x.toNatClampNeg = n := by
  subst hx
  exact nI_clamp h
theorem pk_tn {n : Nat} (h : n < 2 ^ 32) : (nI n).toBitVec.toNat = n := Nat.mod_eq_of_lt h
theorem pk_and (x : Int32) {m : Int32} (k : Nat) (hm : m.toBitVec.toNat = 2 ^ k - 1) : x &&& m = nI (x.toBitVec.toNat % 2 ^ k) := by
  apply Int32.toBitVec_inj.mp
  apply BitVec.eq_of_toNat_eq
  rw [Int32.toBitVec_and, BitVec.toNat_and, hm, Nat.and_two_pow_sub_one_eq_mod]
  show _ = (BitVec.ofNat 32 _).toNat
  rw [BitVec.toNat_ofNat]
  exact (Nat.mod_eq_of_lt (Nat.lt_of_le_of_lt (Nat.mod_le _ _) x.toBitVec.isLt)).symm
theorem pk_andN {n : Nat} (h : n < 2 ^ 32) {m : Int32} (k : Nat) (hm : m.toBitVec.toNat = 2 ^ k - 1) : nI n &&& m = nI (n % 2 ^ k) := by
  rw [pk_and _ k hm, pk_tn h]
theorem pk_shl (a s : Int32) (k : Nat) (hs : (s.toBitVec.smod 32).toNat = k) : (a <<< s).toBitVec.toNat = a.toBitVec.toNat * 2 ^ k % 2 ^ 32 := by
  show (a.toBitVec <<< (s.toBitVec.smod 32).toNat).toNat = _
  rw [hs, BitVec.toNat_shiftLeft, Nat.shiftLeft_eq]
theorem pk_shlN {n : Nat} (s : Int32) (k : Nat) (hs : (s.toBitVec.smod 32).toNat = k) (h : n * 2 ^ k < 2 ^ 32) : nI n <<< s = nI (n * 2 ^ k) := by
  apply Int32.toBitVec_inj.mp
  apply BitVec.eq_of_toNat_eq
  have hn : n < 2 ^ 32 := Nat.lt_of_le_of_lt (Nat.le_mul_of_pos_right n (Nat.two_pow_pos k)) h
  rw [pk_shl _ _ k hs, pk_tn hn, pk_tn h, Nat.mod_eq_of_lt h]
theorem pk_shr (a s : Int32) (k : Nat) (hs : (s.toBitVec.smod 32).toNat = k) : (a >>> s).toInt = a.toInt >>> k := by
  show (a.toBitVec.sshiftRight (s.toBitVec.smod 32).toNat).toInt = _
  rw [hs, BitVec.toInt_sshiftRight]
  rfl
theorem pk_shrN {n : Nat} (h : n < 2 ^ 31) (s : Int32) (k : Nat) (hs : (s.toBitVec.smod 32).toNat = k) : nI n >>> s = nI (n / 2 ^ k) := by
  apply Int32.toInt_inj.mp
  have h2 : n / 2 ^ k ≤ n := Nat.div_le_self _ _
  rw [pk_shr _ _ k hs, nI_toInt h, nI_toInt (by omega), Int.shiftRight_eq_div_pow]
  rfl
theorem pk_lT {n : Nat} (h : n < 2 ^ 63) : (lN n).toInt = (n : Int) := lg_ofNat_toInt h
theorem pk_lLT {a b : Nat} (ha : a < 2 ^ 63) (hb : b < 2 ^ 63) : lN a < lN b ↔ a < b := by
  rw [Int64.lt_iff_toInt_lt, pk_lT ha, pk_lT hb]; omega
theorem pk_lLE {a b : Nat} (ha : a < 2 ^ 63) (hb : b < 2 ^ 63) : lN a ≤ lN b ↔ a ≤ b := by
  rw [Int64.le_iff_toInt_le, pk_lT ha, pk_lT hb]; omega
theorem pk_lEQ {a b : Nat} (ha : a < 2 ^ 63) (hb : b < 2 ^ 63) : lN a = lN b ↔ a = b := by
  rw [← Int64.toInt_inj, pk_lT ha, pk_lT hb]; omega
theorem pk_lOf {x : Int64} (h : ¬ x < 0) : ∃ k : Nat, k < 2 ^ 63 ∧ x = lN k := by
  rw [Int64.lt_iff_toInt_lt] at h
  have h0 : (0 : Int64).toInt = 0 := by decide
  have hx := Int64.toInt_lt x
  refine ⟨x.toInt.toNat, by omega, Int64.toInt_inj.mp ?_⟩
  rw [pk_lT (by omega)]
  omega
theorem pk_loop {σ : Type} (W : Nat → Nat → σ → Prop) (I : Nat → σ → Prop) (e i0 : Nat) (s : σ) (hi : i0 ≤ e) (h0 : I i0 s) (hx : ∀ n s, I e s → W (n + 1) e s)
    (hs : ∀ n i s, i < e → I i s → (∀ s', I (i + 1) s' → W n (i + 1) s') → W (n + 1) i s) : ∃ n, W n i0 s :=
  ⟨e + 1, loop_i W I e hx hs (e + 1) i0 s hi (by omega) h0⟩
theorem pk_loopD {σ : Type} (W : Nat → Nat → σ → Prop) (I : Nat → σ → Prop) (hx : ∀ n s, I 0 s → W (n + 1) 0 s)
    (hs : ∀ n i s, I (i + 1) s → (∀ s', I i s' → W n i s') → W (n + 1) (i + 1) s) : ∀ (e : Nat) (s : σ), I e s → W (e + 1) e s := by
  intro e
  induction e with
  | zero => exact fun s h => hx 0 s h
  | succ e ih => exact fun s h => hs (e + 1) e s h (fun s' h' => ih s' h')
theorem ek_if {c d A B : Prop} (e : c ↔ d) (f : d → A) (g : ¬ d → B) : (c → A) ∧ (¬ c → B) :=
  ⟨fun z => f (e.mp z), fun z => g (fun y => z (e.mpr y))⟩
theorem ek_v {α : Sort _} {P : α → Prop} {a b : α} (e : a = b) (h : P b) : P a := e ▸ h
theorem co_4 {P : Nat → Prop} (h0 : P 0) (h1 : P 1) (h2 : P 2) (h3 : P 3) {i : Nat} (hi : i < 4) : P i :=
  match i, hi with
  | 0, _ => h0
  | 1, _ => h1
  | 2, _ => h2
  | 3, _ => h3
theorem s_l : ∀ n, n < 32 → ((nI n &&& 31).toBitVec.smod 32).toNat = n := by decide +kernel
theorem nx_and (a b : Nat) : nI a &&& nI b = nI (a &&& b) := by
  apply Int32.toBitVec_inj.1
  show BitVec.ofNat 32 a &&& BitVec.ofNat 32 b = BitVec.ofNat 32 (a &&& b)
  apply BitVec.eq_of_getLsbD_eq
  intro i hi
  simp [hi]
end
section
/-! the tree: c leaves 0 .. c-1, inner nodes 8 .. 6+c; par, on, tw: parent and two children; depth, at-or-above -/
def bq_V (c z : Nat) : Prop := z < c ∨ (8 ≤ z ∧ z < 7 + c)
def bq_T (c top : Nat) (par on tw : Nat → Nat) : Prop :=
  (1 ≤ c ∧ c ≤ 7 ∧ bq_V c top) ∧
  (∀ z, bq_V c z → z ≠ top → 8 ≤ par z ∧ par z < 7 + c ∧ (on (par z) = z ∨ tw (par z) = z)) ∧
  (∀ p, 8 ≤ p → p < 7 + c → (bq_V c (on p) ∧ on p ≠ top ∧ par (on p) = p) ∧ (bq_V c (tw p) ∧ tw p ≠ top ∧ par (tw p) = p) ∧ on p ≠ tw p) ∧
  (∃ rk : Nat → Nat, ∀ z, bq_V c z → z ≠ top → rk (par z) < rk z)
def bq_D (c top : Nat) (par d : Nat → Nat) : Prop :=
  d top = 0 ∧ (∀ z, bq_V c z → z ≠ top → d z = d (par z) + 1) ∧ (∀ z, bq_V c z → d z ≤ 6)
theorem bq_pig : ∀ (m n : Nat) (f : Nat → Nat), (∀ i, i < n → f i < m) → (∀ i j, i < n → j < n → f i = f j → i = j) → n ≤ m := by
  intro m
  induction m with
  | zero =>
    intro n f h _
    by_cases hn : n = 0
    · omega
    · exact absurd (h 0 (by omega)) (by omega)
  | succ m ih =>
    intro n f h hi
    by_cases hn : n = 0
    · omega
    by_cases e : ∃ i, i < n ∧ f i = m
    · obtain ⟨i0, h0, e0⟩ := e
      have key : n - 1 ≤ m := by
        refine ih (n - 1) (fun j => if j < i0 then f j else f (j + 1)) ?_ ?_
        · intro j hj
          show (if j < i0 then f j else f (j + 1)) < m
          by_cases hc : j < i0
          · rw [if_pos hc]
            have a := h j (by omega)
            have b : f j ≠ m := fun q => by
              have := hi j i0 (by omega) h0 (by omega)
              omega
            omega
          · rw [if_neg hc]
            have a := h (j + 1) (by omega)
            have b : f (j + 1) ≠ m := fun q => by
              have := hi (j + 1) i0 (by omega) h0 (by omega)
              omega
            omega
        · intro i j hi' hj' q
          have q' : (if i < i0 then f i else f (i + 1)) = (if j < i0 then f j else f (j + 1)) := q
          by_cases ci : i < i0
          · by_cases cj : j < i0
            · rw [if_pos ci, if_pos cj] at q'
              exact hi i j (by omega) (by omega) q'
            · rw [if_pos ci, if_neg cj] at q'
              have := hi i (j + 1) (by omega) (by omega) q'
              omega
          · by_cases cj : j < i0
            · rw [if_neg ci, if_pos cj] at q'
              have := hi (i + 1) j (by omega) (by omega) q'
              omega
            · rw [if_neg ci, if_neg cj] at q'
              have := hi (i + 1) (j + 1) (by omega) (by omega) q'
              omega
      omega
    · have := ih n f (fun i hi' => by
        have a := h i hi'
        have b : f i ≠ m := fun q => e ⟨i, hi', q⟩
        omega) hi
      omega
section
variable {c top : Nat} {par on tw d : Nat → Nat}
theorem bq_c1 (H : bq_T c top par on tw) : 1 ≤ c := H.1.1
theorem bq_c7 (H : bq_T c top par on tw) : c ≤ 7 := H.1.2.1
theorem bq_vt (H : bq_T c top par on tw) : bq_V c top := H.1.2.2
theorem bq_lt14 (H : bq_T c top par on tw) {z : Nat} (hz : bq_V c z) : z < 14 := by
  have := bq_c7 H
  rcases hz with h | h <;> omega
theorem bq_p8 (H : bq_T c top par on tw) {z : Nat} (hz : bq_V c z) (hn : z ≠ top) : 8 ≤ par z := (H.2.1 z hz hn).1
theorem bq_p7 (H : bq_T c top par on tw) {z : Nat} (hz : bq_V c z) (hn : z ≠ top) : par z < 7 + c := (H.2.1 z hz hn).2.1
theorem bq_pk (H : bq_T c top par on tw) {z : Nat} (hz : bq_V c z) (hn : z ≠ top) : on (par z) = z ∨ tw (par z) = z := (H.2.1 z hz hn).2.2
theorem bq_pv (H : bq_T c top par on tw) {z : Nat} (hz : bq_V c z) (hn : z ≠ top) : bq_V c (par z) := Or.inr ⟨bq_p8 H hz hn, bq_p7 H hz hn⟩
theorem bq_v0 (H : bq_T c top par on tw) : bq_V c 0 := Or.inl (bq_c1 H)
def bq_dp (top : Nat) (par : Nat → Nat) : Nat → Nat → Nat
  | 0, _ => 0
  | n + 1, z => if z = top then 0 else bq_dp top par n (par z) + 1
theorem bq_dp_top (n : Nat) : bq_dp top par n top = 0 := by
  cases n with
  | zero => rfl
  | succ n => exact if_pos rfl
theorem bq_dp_s {n z : Nat} (h : z ≠ top) : bq_dp top par (n + 1) z = bq_dp top par n (par z) + 1 := if_neg h
theorem bq_dp_st (H : bq_T c top par on tw) {rk : Nat → Nat} (hr : ∀ z, bq_V c z → z ≠ top → rk (par z) < rk z) :
    ∀ n m z, bq_V c z → rk z ≤ n → rk z ≤ m → bq_dp top par n z = bq_dp top par m z := by
  intro n
  induction n with
  | zero =>
    intro m z hz h0 _
    by_cases e : z = top
    · subst e
      rw [bq_dp_top, bq_dp_top]
    · have := hr z hz e
      omega
  | succ n ih =>
    intro m z hz h0 h1
    by_cases e : z = top
    · subst e
      rw [bq_dp_top, bq_dp_top]
    · have h2 := hr z hz e
      obtain ⟨m', rfl⟩ : ∃ m', m = m' + 1 := ⟨m - 1, by omega⟩
      rw [bq_dp_s e, bq_dp_s e, ih m' (par z) (bq_pv H hz e) (by omega) (by omega)]
def bq_it (par : Nat → Nat) : Nat → Nat → Nat
  | 0, z => z
  | n + 1, z => bq_it par n (par z)
theorem bq_it_d (H : bq_T c top par on tw) (h0 : d top = 0) (h1 : ∀ z, bq_V c z → z ≠ top → d z = d (par z) + 1) :
    ∀ n z, bq_V c z → n ≤ d z → d (bq_it par n z) + n = d z ∧ (1 ≤ n → 8 ≤ bq_it par n z ∧ bq_it par n z < 7 + c) := by
  intro n
  induction n with
  | zero =>
    intro z _ _
    exact ⟨rfl, fun h => absurd h (by omega)⟩
  | succ n ih =>
    intro z hz hn
    have e : z ≠ top := fun q => by
      subst q
      omega
    have h2 := h1 z hz e
    obtain ⟨a, b⟩ := ih (par z) (bq_pv H hz e) (by omega)
    refine ⟨?_, fun _ => ?_⟩
    · show d (bq_it par n (par z)) + (n + 1) = d z
      omega
    · show 8 ≤ bq_it par n (par z) ∧ bq_it par n (par z) < 7 + c
      by_cases hn0 : n = 0
      · subst hn0
        exact ⟨bq_p8 H hz e, bq_p7 H hz e⟩
      · exact b (by omega)
theorem bq_ex (H : bq_T c top par on tw) : ∃ d : Nat → Nat, bq_D c top par d := by
  obtain ⟨rk, hr⟩ := H.2.2.2
  have h0 : bq_dp top par (rk top) top = 0 := bq_dp_top _
  have h1 : ∀ z, bq_V c z → z ≠ top → bq_dp top par (rk z) z = bq_dp top par (rk (par z)) (par z) + 1 := by
    intro z hz e
    have h2 := hr z hz e
    obtain ⟨m, hm⟩ : ∃ m, rk z = m + 1 := ⟨rk z - 1, by omega⟩
    rw [hm, bq_dp_s e, bq_dp_st H hr m (rk (par z)) (par z) (bq_pv H hz e) (by omega) (Nat.le_refl _)]
  refine ⟨fun z => bq_dp top par (rk z) z, h0, h1, ?_⟩
  intro z hz
  show bq_dp top par (rk z) z ≤ 6
  by_cases hc : bq_dp top par (rk z) z ≤ 6
  · exact hc
  · exfalso
    have hit := bq_it_d (d := fun z => bq_dp top par (rk z) z) H h0 h1
    have h7 := bq_c7 H
    have := bq_pig 6 7 (fun i => bq_it par (i + 1) z - 8) (fun i hi => by
      have := (hit (i + 1) z hz (by show i + 1 ≤ bq_dp top par (rk z) z; omega)).2 (by omega)
      show bq_it par (i + 1) z - 8 < 6
      omega) (fun i j hi hj q => by
      have a := hit (i + 1) z hz (by show i + 1 ≤ bq_dp top par (rk z) z; omega)
      have b := hit (j + 1) z hz (by show j + 1 ≤ bq_dp top par (rk z) z; omega)
      have a2 := a.2 (by omega)
      have b2 := b.2 (by omega)
      have q' : bq_it par (i + 1) z - 8 = bq_it par (j + 1) z - 8 := q
      have e : bq_it par (i + 1) z = bq_it par (j + 1) z := by omega
      have a1 := a.1
      have b1 := b.1
      rw [e] at a1
      omega)
    omega
theorem bq_d0 (hD : bq_D c top par d) {z : Nat} (hz : bq_V c z) (h : d z = 0) : z = top := by
  by_cases e : z = top
  · exact e
  · have := hD.2.1 z hz e
    omega
theorem bq_ind (H : bq_T c top par on tw) (P : Nat → Prop) (h0 : P top) (hs : ∀ z, bq_V c z → z ≠ top → P (par z) → P z) :
    ∀ z, bq_V c z → P z := by
  obtain ⟨d, hD⟩ := bq_ex H
  have key : ∀ n z, bq_V c z → d z = n → P z := by
    intro n
    induction n with
    | zero =>
      intro z hz hd
      rw [bq_d0 hD hz hd]
      exact h0
    | succ n ih =>
      intro z hz hd
      have e : z ≠ top := fun q => by
        have := hD.1
        rw [← q] at this
        omega
      have := hD.2.1 z hz e
      exact hs z hz e (ih (par z) (bq_pv H hz e) (by omega))
  exact fun z hz => key (d z) z hz rfl
theorem bq_dn (H : bq_T c top par on tw) (P : Nat → Prop)
    (h0 : ∀ z, bq_V c z → z < 8 → P z) (hs : ∀ z, bq_V c z → 8 ≤ z → P (on z) → P (tw z) → P z) :
    ∀ z, bq_V c z → P z := by
  obtain ⟨d, hD⟩ := bq_ex H
  have key : ∀ n z, bq_V c z → 6 - d z < n → P z := by
    intro n
    induction n with
    | zero =>
      intro z _ h
      omega
    | succ n ih =>
      intro z hz hd
      by_cases h8 : z < 8
      · exact h0 z hz h8
      · have h7 : z < 7 + c := by
          have := bq_c7 H
          rcases hz with h | h <;> omega
        obtain ⟨⟨v1, n1, p1⟩, ⟨v2, n2, p2⟩, _⟩ := H.2.2.1 z (by omega) h7
        have d1 := hD.2.1 _ v1 n1
        have d2 := hD.2.1 _ v2 n2
        have e1 := hD.2.2 _ v1
        have e2 := hD.2.2 _ v2
        rw [p1] at d1
        rw [p2] at d2
        exact hs z hz (by omega) (ih _ v1 (by omega)) (ih _ v2 (by omega))
  exact fun z hz => key (6 - d z + 1) z hz (by omega)
def bq_an (top : Nat) (par : Nat → Nat) (x : Nat) : Nat → Nat → Bool
  | 0, _ => false
  | n + 1, z => if z = x then true else if z = top then false else bq_an top par x n (par z)
theorem bq_an_st (H : bq_T c top par on tw) (hD : bq_D c top par d) (x : Nat) :
    ∀ n m z, bq_V c z → d z < n → d z < m → bq_an top par x n z = bq_an top par x m z := by
  intro n
  induction n with
  | zero =>
    intro m z _ h
    omega
  | succ n ih =>
    intro m z hz h0 h1
    obtain ⟨m', rfl⟩ : ∃ m', m = m' + 1 := ⟨m - 1, by omega⟩
    show (if z = x then true else if z = top then false else bq_an top par x n (par z)) = (if z = x then true else if z = top then false else bq_an top par x m' (par z))
    by_cases e : z = x
    · rw [if_pos e, if_pos e]
    · rw [if_neg e, if_neg e]
      by_cases et : z = top
      · rw [if_pos et, if_pos et]
      · rw [if_neg et, if_neg et]
        have := hD.2.1 z hz et
        exact ih m' (par z) (bq_pv H hz et) (by omega) (by omega)
abbrev bq_A (top : Nat) (par : Nat → Nat) (x z : Nat) : Prop := bq_an top par x 7 z = true
theorem bq_A_rf (x : Nat) : bq_A top par x x := if_pos rfl
theorem bq_A_tp {x : Nat} (h : x ≠ top) : ¬ bq_A top par x top := by
  have e : bq_an top par x 7 top = false := by
    show (if top = x then true else if top = top then false else _) = false
    rw [if_neg (fun q => h q.symm), if_pos rfl]
  intro q
  rw [bq_A, e] at q
  exact Bool.noConfusion q
theorem bq_A_up (H : bq_T c top par on tw) {x z : Nat} (hz : bq_V c z) (ht : z ≠ top) (hx : z ≠ x) : bq_A top par x z ↔ bq_A top par x (par z) := by
  obtain ⟨d, hD⟩ := bq_ex H
  have e : bq_an top par x 7 z = bq_an top par x 6 (par z) := by
    show (if z = x then true else if z = top then false else bq_an top par x 6 (par z)) = _
    rw [if_neg hx, if_neg ht]
  have h1 := hD.2.1 z hz ht
  have h2 := hD.2.2 z hz
  rw [bq_A, bq_A, e, bq_an_st H hD x 6 7 (par z) (bq_pv H hz ht) (by omega) (by omega)]
theorem bq_A_st (H : bq_T c top par on tw) {x z : Nat} (hz : bq_V c z) (ht : z ≠ top) (h : bq_A top par x (par z)) : bq_A top par x z := by
  by_cases e : z = x
  · rw [e]
    exact bq_A_rf x
  · exact (bq_A_up H hz ht e).mpr h
theorem bq_A_d (H : bq_T c top par on tw) (hD : bq_D c top par d) (x : Nat) : ∀ z, bq_V c z → bq_A top par x z → z = x ∨ d x < d z := by
  refine bq_ind H _ ?_ ?_
  · intro h
    by_cases e : x = top
    · exact Or.inl e.symm
    · exact absurd h (bq_A_tp e)
  · intro z hz ht ih h
    by_cases e : z = x
    · exact Or.inl e
    · have h1 := hD.2.1 z hz ht
      rcases ih ((bq_A_up H hz ht e).mp h) with q | q
      · rw [q] at h1
        exact Or.inr (by omega)
      · exact Or.inr (by omega)
theorem bq_A_v (H : bq_T c top par on tw) (x : Nat) : ∀ z, bq_V c z → bq_A top par x z → bq_V c x := by
  refine bq_ind H _ ?_ ?_
  · intro h
    by_cases e : x = top
    · rw [e]
      exact bq_vt H
    · exact absurd h (bq_A_tp e)
  · intro z hz ht ih h
    by_cases e : z = x
    · rw [← e]
      exact hz
    · exact ih ((bq_A_up H hz ht e).mp h)
theorem bq_A_all (H : bq_T c top par on tw) : ∀ z, bq_V c z → bq_A top par top z :=
  bq_ind H _ (bq_A_rf top) (fun _ hz ht ih => bq_A_st H hz ht ih)
theorem bq_A_tr (H : bq_T c top par on tw) {x y : Nat} (hxy : bq_A top par x y) : ∀ z, bq_V c z → bq_A top par y z → bq_A top par x z := by
  refine bq_ind H _ ?_ ?_
  · intro h
    by_cases e : y = top
    · rw [e] at hxy
      exact hxy
    · exact absurd h (bq_A_tp e)
  · intro z hz ht ih h
    by_cases e : z = y
    · rw [e]
      exact hxy
    · exact bq_A_st H hz ht (ih ((bq_A_up H hz ht e).mp h))
theorem bq_A_li (H : bq_T c top par on tw) (x y : Nat) : ∀ z, bq_V c z → bq_A top par x z → bq_A top par y z → bq_A top par x y ∨ bq_A top par y x := by
  refine bq_ind H _ ?_ ?_
  · intro h1 h2
    by_cases e : y = top
    · rw [e]
      exact Or.inl h1
    · exact absurd h2 (bq_A_tp e)
  · intro z hz ht ih h1 h2
    by_cases ey : z = y
    · rw [ey] at h1
      exact Or.inl h1
    · by_cases ex : z = x
      · rw [ex] at h2
        exact Or.inr h2
      · exact ih ((bq_A_up H hz ht ex).mp h1) ((bq_A_up H hz ht ey).mp h2)
theorem bq_A_as (H : bq_T c top par on tw) {x y : Nat} (hx : bq_V c x) (hy : bq_V c y) (h1 : bq_A top par x y) (h2 : bq_A top par y x) : x = y := by
  obtain ⟨d, hD⟩ := bq_ex H
  rcases bq_A_d H hD x y hy h1 with e | e
  · exact e.symm
  · rcases bq_A_d H hD y x hx h2 with e2 | e2
    · exact e2
    · omega
theorem bq_on (H : bq_T c top par on tw) {p : Nat} (h8 : 8 ≤ p) (h7 : p < 7 + c) : bq_V c (on p) ∧ on p ≠ top ∧ par (on p) = p := (H.2.2.1 p h8 h7).1
theorem bq_tw (H : bq_T c top par on tw) {p : Nat} (h8 : 8 ≤ p) (h7 : p < 7 + c) : bq_V c (tw p) ∧ tw p ≠ top ∧ par (tw p) = p := (H.2.2.1 p h8 h7).2.1
theorem bq_nt (H : bq_T c top par on tw) {p : Nat} (h8 : 8 ≤ p) (h7 : p < 7 + c) : on p ≠ tw p := (H.2.2.1 p h8 h7).2.2
theorem bq_A_par (H : bq_T c top par on tw) {z : Nat} (hz : bq_V c z) (ht : z ≠ top) : bq_A top par (par z) z := bq_A_st H hz ht (bq_A_rf _)
theorem bq_par_nA (H : bq_T c top par on tw) {z : Nat} (hz : bq_V c z) (ht : z ≠ top) : ¬ bq_A top par z (par z) := by
  intro h
  obtain ⟨d, hD⟩ := bq_ex H
  have h1 := hD.2.1 z hz ht
  rcases bq_A_d H hD z (par z) (bq_pv H hz ht) h with e | e
  · rw [e] at h1
    omega
  · omega
theorem bq_A_kid (H : bq_T c top par on tw) (p : Nat) : ∀ w, bq_V c w → bq_A top par p w → w = p ∨ bq_A top par (on p) w ∨ bq_A top par (tw p) w := by
  refine bq_ind H _ ?_ ?_
  · intro h
    by_cases e : p = top
    · exact Or.inl e.symm
    · exact absurd h (bq_A_tp e)
  · intro z hz ht ih h
    by_cases e : z = p
    · exact Or.inl e
    · refine Or.inr ?_
      rcases ih ((bq_A_up H hz ht e).mp h) with q | q | q
      · rcases bq_pk H hz ht with k | k
        · rw [q] at k
          rw [k]
          exact Or.inl (bq_A_rf z)
        · rw [q] at k
          rw [k]
          exact Or.inr (bq_A_rf z)
      · exact Or.inl (bq_A_st H hz ht q)
      · exact Or.inr (bq_A_st H hz ht q)
theorem bq_A_onp (H : bq_T c top par on tw) {p : Nat} (h8 : 8 ≤ p) (h7 : p < 7 + c) : bq_A top par p (on p) := by
  obtain ⟨v, n, e⟩ := bq_on H h8 h7
  have := bq_A_par H v n
  rw [e] at this
  exact this
theorem bq_A_twp (H : bq_T c top par on tw) {p : Nat} (h8 : 8 ≤ p) (h7 : p < 7 + c) : bq_A top par p (tw p) := by
  obtain ⟨v, n, e⟩ := bq_tw H h8 h7
  have := bq_A_par H v n
  rw [e] at this
  exact this
theorem bq_A_sib (H : bq_T c top par on tw) {p : Nat} (h8 : 8 ≤ p) (h7 : p < 7 + c) {w : Nat} (hw : bq_V c w) (h1 : bq_A top par (on p) w) (h2 : bq_A top par (tw p) w) : False := by
  obtain ⟨d, hD⟩ := bq_ex H
  obtain ⟨v1, n1, e1⟩ := bq_on H h8 h7
  obtain ⟨v2, n2, e2⟩ := bq_tw H h8 h7
  have d1 := hD.2.1 _ v1 n1
  have d2 := hD.2.1 _ v2 n2
  rw [e1] at d1
  rw [e2] at d2
  rcases bq_A_li H _ _ w hw h1 h2 with q | q
  · rcases bq_A_d H hD _ _ v2 q with r | r
    · exact bq_nt H h8 h7 r.symm
    · omega
  · rcases bq_A_d H hD _ _ v1 q with r | r
    · exact bq_nt H h8 h7 r
    · omega
theorem bq_leaf (H : bq_T c top par on tw) : ∀ z, bq_V c z → ∃ l, l < c ∧ bq_A top par z l := by
  refine bq_dn H _ ?_ ?_
  · intro z hz h8
    exact ⟨z, by rcases hz with h | h <;> omega, bq_A_rf z⟩
  · intro z hz h8 ih _
    have h7 : z < 7 + c := by
      have := bq_c7 H
      rcases hz with h | h <;> omega
    obtain ⟨l, hl, h⟩ := ih
    exact ⟨l, hl, bq_A_tr H (bq_A_onp H h8 h7) l (Or.inl hl) h⟩
theorem bq_sep (H : bq_T c top par on tw) {z w : Nat} (hz : bq_V c z) (h8 : 8 ≤ z) (hw : bq_V c w) (hA : bq_A top par z w) (hne : z ≠ w) : ∃ l, l < c ∧ bq_A top par z l ∧ ¬ bq_A top par w l := by
  have h7 : z < 7 + c := by
    have := bq_c7 H
    rcases hz with h | h <;> omega
  rcases bq_A_kid H z w hw hA with q | q | q
  · exact absurd q.symm hne
  · obtain ⟨v, _, _⟩ := bq_tw H h8 h7
    obtain ⟨l, hl, h⟩ := bq_leaf H _ v
    refine ⟨l, hl, bq_A_tr H (bq_A_twp H h8 h7) l (Or.inl hl) h, fun g => ?_⟩
    exact bq_A_sib H h8 h7 (Or.inl hl) (bq_A_tr H q l (Or.inl hl) g) h
  · obtain ⟨v, _, _⟩ := bq_on H h8 h7
    obtain ⟨l, hl, h⟩ := bq_leaf H _ v
    refine ⟨l, hl, bq_A_tr H (bq_A_onp H h8 h7) l (Or.inl hl) h, fun g => ?_⟩
    exact bq_A_sib H h8 h7 (Or.inl hl) h (bq_A_tr H q l (Or.inl hl) g)
theorem bq_inj (H : bq_T c top par on tw) {z w : Nat} (hz : bq_V c z) (hz8 : 8 ≤ z) (hw : bq_V c w) (hw8 : 8 ≤ w)
    (h : ∀ l, l < c → (bq_A top par z l ↔ bq_A top par w l)) : z = w := by
  by_cases e : z = w
  · exact e
  · exfalso
    obtain ⟨l, hl, h1⟩ := bq_leaf H z hz
    rcases bq_A_li H z w l (Or.inl hl) h1 ((h l hl).mp h1) with q | q
    · obtain ⟨m, hm, a, b⟩ := bq_sep H hz hz8 hw q e
      exact b ((h m hm).mp a)
    · obtain ⟨m, hm, a, b⟩ := bq_sep H hw hw8 hz q (fun x => e x.symm)
      exact b ((h m hm).mpr a)
end
end
section
/-! the trees after attach, swap and move -/
theorem bq_Vs {c z : Nat} (h : bq_V c z) : bq_V (c + 1) z := by
  rcases h with h | h
  · exact Or.inl (by omega)
  · exact Or.inr ⟨by omega, by omega⟩
section
variable {c top top' : Nat} {par on tw d P' O' W' : Nat → Nat}
theorem bq_att (H : bq_T c top par on tw) (hc : c < 7) {x : Nat} (hx : bq_V c x)
    (hL : P' c = 7 + c) (hX : P' x = 7 + c) (hI : x ≠ top → P' (7 + c) = par x)
    (hO : ∀ z, bq_V c z → z ≠ x → z ≠ top → P' z = par z)
    (ht1 : x = top → top' = 7 + c) (ht2 : x ≠ top → top' = top)
    (o1 : O' (7 + c) = x) (w1 : W' (7 + c) = c)
    (o2 : ∀ p, 8 ≤ p → p < 7 + c → on p = x → O' p = 7 + c) (o3 : ∀ p, 8 ≤ p → p < 7 + c → on p ≠ x → O' p = on p)
    (w2 : ∀ p, 8 ≤ p → p < 7 + c → tw p = x → W' p = 7 + c) (w3 : ∀ p, 8 ≤ p → p < 7 + c → tw p ≠ x → W' p = tw p) :
    bq_T (c + 1) top' P' O' W' := by
  have hx' : x < c ∨ (8 ≤ x ∧ x < 7 + c) := hx
  have h1 := bq_c1 H
  have vt := bq_vt H
  have vt' : top < c ∨ (8 ≤ top ∧ top < 7 + c) := vt
  refine ⟨⟨by omega, by omega, ?_⟩, ?_, ?_, ?_⟩
  · by_cases e : x = top
    · rw [ht1 e]
      exact Or.inr ⟨by omega, by omega⟩
    · rw [ht2 e]
      exact bq_Vs vt
  · intro z hz hn
    by_cases e1 : z = c
    · rw [e1, hL]
      exact ⟨by omega, by omega, Or.inr w1⟩
    by_cases e2 : z = x
    · rw [e2, hX]
      exact ⟨by omega, by omega, Or.inl o1⟩
    by_cases e3 : z = 7 + c
    · have hnt : x ≠ top := fun q => hn (by rw [e3, ht1 q])
      rw [e3, hI hnt]
      have a := bq_p8 H hx hnt
      have b := bq_p7 H hx hnt
      refine ⟨a, by omega, ?_⟩
      rcases bq_pk H hx hnt with k | k
      · exact Or.inl (o2 _ a b k)
      · exact Or.inr (w2 _ a b k)
    · have hzv : bq_V c z := by
        rcases hz with h | h
        · exact Or.inl (by omega)
        · exact Or.inr ⟨by omega, by omega⟩
      have hzt : z ≠ top := fun q => by
        by_cases e : x = top
        · exact e2 (q.trans e.symm)
        · exact hn (q.trans (ht2 e).symm)
      rw [hO z hzv e2 hzt]
      have a := bq_p8 H hzv hzt
      have b := bq_p7 H hzv hzt
      refine ⟨a, by omega, ?_⟩
      rcases bq_pk H hzv hzt with k | k
      · exact Or.inl ((o3 _ a b (by rw [k]; exact e2)).trans k)
      · exact Or.inr ((w3 _ a b (by rw [k]; exact e2)).trans k)
  · intro p h8 h7
    by_cases e : p = 7 + c
    · rw [e, o1, w1]
      refine ⟨⟨bq_Vs hx, ?_, hX⟩, ⟨Or.inl (by omega), ?_, hL⟩, by omega⟩
      · by_cases q : x = top
        · rw [ht1 q]
          omega
        · rw [ht2 q]
          exact q
      · by_cases q : x = top
        · rw [ht1 q]
          omega
        · rw [ht2 q]
          omega
    · have h7' : p < 7 + c := by omega
      obtain ⟨v1, n1, p1⟩ := bq_on H h8 h7'
      obtain ⟨v2, n2, p2⟩ := bq_tw H h8 h7'
      have hne := bq_nt H h8 h7'
      have v1' : on p < c ∨ (8 ≤ on p ∧ on p < 7 + c) := v1
      have v2' : tw p < c ∨ (8 ≤ tw p ∧ tw p < 7 + c) := v2
      have K : ∀ k k', bq_V c k → k ≠ top → par k = p → (k = x → k' = 7 + c) → (k ≠ x → k' = k) → bq_V (c + 1) k' ∧ k' ≠ top' ∧ P' k' = p := by
        intro k k' v n q a b
        have v' : k < c ∨ (8 ≤ k ∧ k < 7 + c) := v
        by_cases e : k = x
        · rw [a e]
          have hnt : x ≠ top := fun r => n (e.trans r)
          refine ⟨Or.inr ⟨by omega, by omega⟩, ?_, ?_⟩
          · rw [ht2 hnt]
            omega
          · rw [hI hnt, ← e]
            exact q
        · rw [b e]
          refine ⟨bq_Vs v, ?_, ?_⟩
          · by_cases r : x = top
            · rw [ht1 r]
              omega
            · rw [ht2 r]
              exact n
          · rw [hO k v e n]
            exact q
      refine ⟨K _ _ v1 n1 p1 (o2 p h8 h7') (o3 p h8 h7'), K _ _ v2 n2 p2 (w2 p h8 h7') (w3 p h8 h7'), ?_⟩
      by_cases e1 : on p = x
      · have e2 : tw p ≠ x := fun q => hne (e1.trans q.symm)
        rw [o2 p h8 h7' e1, w3 p h8 h7' e2]
        omega
      · rw [o3 p h8 h7' e1]
        by_cases e2 : tw p = x
        · rw [w2 p h8 h7' e2]
          omega
        · rw [w3 p h8 h7' e2]
          exact hne
  · obtain ⟨d, hD⟩ := bq_ex H
    refine ⟨fun z => if z = 7 + c then 2 * d x + 1 else if z = c then 2 * d x + 2 else 2 * d z + 2, ?_⟩
    intro z hz hn
    show (if P' z = 7 + c then 2 * d x + 1 else if P' z = c then 2 * d x + 2 else 2 * d (P' z) + 2) < (if z = 7 + c then 2 * d x + 1 else if z = c then 2 * d x + 2 else 2 * d z + 2)
    by_cases e1 : z = c
    · rw [e1, hL, if_pos rfl, if_neg (show ¬ c = 7 + c by omega), if_pos rfl]
      omega
    by_cases e2 : z = x
    · rw [e2, hX, if_pos rfl, if_neg (show ¬ x = 7 + c by omega), if_neg (show ¬ x = c by omega)]
      omega
    by_cases e3 : z = 7 + c
    · have hnt : x ≠ top := fun q => hn (by rw [e3, ht1 q])
      have a := bq_p8 H hx hnt
      have b := bq_p7 H hx hnt
      have h := hD.2.1 x hx hnt
      rw [e3, hI hnt, if_neg (show ¬ par x = 7 + c by omega), if_neg (show ¬ par x = c by omega), if_pos rfl]
      omega
    · have hzv : bq_V c z := by
        rcases hz with h | h
        · exact Or.inl (by omega)
        · exact Or.inr ⟨by omega, by omega⟩
      have hzt : z ≠ top := fun q => by
        by_cases e : x = top
        · exact e2 (q.trans e.symm)
        · exact hn (q.trans (ht2 e).symm)
      have a := bq_p8 H hzv hzt
      have b := bq_p7 H hzv hzt
      have h := hD.2.1 z hzv hzt
      rw [hO z hzv e2 hzt, if_neg (show ¬ par z = 7 + c by omega), if_neg (show ¬ par z = c by omega), if_neg e3, if_neg e1]
      omega
theorem bq_ntop (H : bq_T c top par on tw) {x y : Nat} (hy : bq_V c y) (h : ¬ bq_A top par x y) : x ≠ top := fun q => h (by rw [q]; exact bq_A_all H y hy)
theorem bq_swp (H : bq_T c top par on tw) {x y : Nat} (hx : bq_V c x) (hy : bq_V c y) (h1 : ¬ bq_A top par x y) (h2 : ¬ bq_A top par y x)
    (hX : P' x = par y) (hY : P' y = par x) (hO : ∀ z, bq_V c z → z ≠ x → z ≠ y → z ≠ top → P' z = par z)
    (o1 : ∀ p, 8 ≤ p → p < 7 + c → on p = x → O' p = y) (o2 : ∀ p, 8 ≤ p → p < 7 + c → on p = y → O' p = x) (o3 : ∀ p, 8 ≤ p → p < 7 + c → on p ≠ x → on p ≠ y → O' p = on p)
    (w1 : ∀ p, 8 ≤ p → p < 7 + c → tw p = x → W' p = y) (w2 : ∀ p, 8 ≤ p → p < 7 + c → tw p = y → W' p = x) (w3 : ∀ p, 8 ≤ p → p < 7 + c → tw p ≠ x → tw p ≠ y → W' p = tw p) :
    bq_T c top P' O' W' := by
  have xt : x ≠ top := bq_ntop H hy h1
  have yt : y ≠ top := bq_ntop H hx h2
  have xy : x ≠ y := fun q => h1 (by rw [q]; exact bq_A_rf y)
  refine ⟨H.1, ?_, ?_, ?_⟩
  · intro z hz hn
    by_cases e1 : z = x
    · have a := bq_p8 H hy yt
      have b := bq_p7 H hy yt
      rw [e1, hX]
      refine ⟨a, b, ?_⟩
      rcases bq_pk H hy yt with k | k
      · exact Or.inl (o2 _ a b k)
      · exact Or.inr (w2 _ a b k)
    by_cases e2 : z = y
    · have a := bq_p8 H hx xt
      have b := bq_p7 H hx xt
      rw [e2, hY]
      refine ⟨a, b, ?_⟩
      rcases bq_pk H hx xt with k | k
      · exact Or.inl (o1 _ a b k)
      · exact Or.inr (w1 _ a b k)
    · have a := bq_p8 H hz hn
      have b := bq_p7 H hz hn
      rw [hO z hz e1 e2 hn]
      refine ⟨a, b, ?_⟩
      rcases bq_pk H hz hn with k | k
      · exact Or.inl ((o3 _ a b (by rw [k]; exact e1) (by rw [k]; exact e2)).trans k)
      · exact Or.inr ((w3 _ a b (by rw [k]; exact e1) (by rw [k]; exact e2)).trans k)
  · intro p h8 h7
    obtain ⟨v1, n1, p1⟩ := bq_on H h8 h7
    obtain ⟨v2, n2, p2⟩ := bq_tw H h8 h7
    have hne := bq_nt H h8 h7
    have K : ∀ k k', bq_V c k → k ≠ top → par k = p → (k = x → k' = y) → (k = y → k' = x) → (k ≠ x → k ≠ y → k' = k) → bq_V c k' ∧ k' ≠ top ∧ P' k' = p := by
      intro k k' v n q a b e
      by_cases e1 : k = x
      · rw [a e1]
        exact ⟨hy, yt, by rw [hY, ← e1]; exact q⟩
      by_cases e2 : k = y
      · rw [b e2]
        exact ⟨hx, xt, by rw [hX, ← e2]; exact q⟩
      · rw [e e1 e2]
        exact ⟨v, n, by rw [hO k v e1 e2 n]; exact q⟩
    refine ⟨K _ _ v1 n1 p1 (o1 p h8 h7) (o2 p h8 h7) (o3 p h8 h7), K _ _ v2 n2 p2 (w1 p h8 h7) (w2 p h8 h7) (w3 p h8 h7), ?_⟩
    by_cases a1 : on p = x
    · rw [o1 p h8 h7 a1]
      have a2 : tw p ≠ x := fun q => hne (a1.trans q.symm)
      by_cases b2 : tw p = y
      · rw [w2 p h8 h7 b2]
        exact fun q => xy q.symm
      · rw [w3 p h8 h7 a2 b2]
        exact fun q => b2 q.symm
    by_cases b1 : on p = y
    · rw [o2 p h8 h7 b1]
      have b2 : tw p ≠ y := fun q => hne (b1.trans q.symm)
      by_cases a2 : tw p = x
      · rw [w1 p h8 h7 a2]
        exact xy
      · rw [w3 p h8 h7 a2 b2]
        exact fun q => a2 q.symm
    · rw [o3 p h8 h7 a1 b1]
      by_cases a2 : tw p = x
      · rw [w1 p h8 h7 a2]
        exact b1
      by_cases b2 : tw p = y
      · rw [w2 p h8 h7 b2]
        exact a1
      · rw [w3 p h8 h7 a2 b2]
        exact hne
  · obtain ⟨d, hD⟩ := bq_ex H
    refine ⟨fun z => if bq_A top par x z then d z - d x + d y else if bq_A top par y z then d z - d y + d x else d z, ?_⟩
    intro z hz hn
    show (if bq_A top par x (P' z) then d (P' z) - d x + d y else if bq_A top par y (P' z) then d (P' z) - d y + d x else d (P' z)) < (if bq_A top par x z then d z - d x + d y else if bq_A top par y z then d z - d y + d x else d z)
    by_cases e1 : z = x
    · have h := hD.2.1 y hy yt
      rw [e1, hX, if_neg (fun q => h1 (bq_A_st H hy yt q)), if_neg (bq_par_nA H hy yt), if_pos (bq_A_rf x)]
      omega
    by_cases e2 : z = y
    · have h := hD.2.1 x hx xt
      rw [e2, hY, if_neg (bq_par_nA H hx xt), if_neg (fun q => h2 (bq_A_st H hx xt q)), if_neg h1, if_pos (bq_A_rf y)]
      omega
    · have h := hD.2.1 z hz hn
      have ux := bq_A_up H hz hn e1
      have uy := bq_A_up H hz hn e2
      have vp := bq_pv H hz hn
      rw [hO z hz e1 e2 hn]
      by_cases q1 : bq_A top par x z
      · have q2 := ux.mp q1
        rw [if_pos q1, if_pos q2]
        rcases bq_A_d H hD x _ vp q2 with r | r
        · rw [r]
          rw [r] at h
          omega
        · omega
      · have q2 : ¬ bq_A top par x (par z) := fun r => q1 (ux.mpr r)
        rw [if_neg q1, if_neg q2]
        by_cases q3 : bq_A top par y z
        · have q4 := uy.mp q3
          rw [if_pos q3, if_pos q4]
          rcases bq_A_d H hD y _ vp q4 with r | r
          · rw [r]
            rw [r] at h
            omega
          · omega
        · have q4 : ¬ bq_A top par y (par z) := fun r => q3 (uy.mpr r)
          rw [if_neg q3, if_neg q4]
          omega
theorem bq_mov (H : bq_T c top par on tw) {x y s p : Nat} (hx : bq_V c x) (hy : bq_V c y) (hs : bq_V c s) (xt : x ≠ top) (st : s ≠ top)
    (ep : par x = p) (es : par s = p) (sx : s ≠ x) (hk : ∀ k, bq_V c k → k ≠ top → par k = p → k = x ∨ k = s)
    (hA : ¬ bq_A top par x y) (yp : y ≠ p) (ys : y ≠ s)
    (hPy : P' y = p) (hPx : P' x = p) (hPs : p ≠ top → P' s = par p) (hPp : y ≠ top → P' p = par y)
    (hO : ∀ z, bq_V c z → z ≠ x → z ≠ y → z ≠ s → z ≠ p → z ≠ top → P' z = par z)
    (t1 : p = top → top' = s) (t2 : p ≠ top → y = top → top' = p) (t3 : p ≠ top → y ≠ top → top' = top)
    (oP : O' p = y) (wP : W' p = x)
    (o1 : ∀ q, 8 ≤ q → q < 7 + c → q ≠ p → on q = p → O' q = s) (o2 : ∀ q, 8 ≤ q → q < 7 + c → q ≠ p → on q = y → O' q = p) (o3 : ∀ q, 8 ≤ q → q < 7 + c → q ≠ p → on q ≠ p → on q ≠ y → O' q = on q)
    (w1 : ∀ q, 8 ≤ q → q < 7 + c → q ≠ p → tw q = p → W' q = s) (w2 : ∀ q, 8 ≤ q → q < 7 + c → q ≠ p → tw q = y → W' q = p) (w3 : ∀ q, 8 ≤ q → q < 7 + c → q ≠ p → tw q ≠ p → tw q ≠ y → W' q = tw q) :
    bq_T c top' P' O' W' := by
  have yx : y ≠ x := fun q => hA (by rw [q]; exact bq_A_rf x)
  have p8 : 8 ≤ p := by
    have := bq_p8 H hx xt
    omega
  have p7 : p < 7 + c := by
    have := bq_p7 H hx xt
    omega
  have vp : bq_V c p := Or.inr ⟨p8, p7⟩
  have npx : ¬ bq_A top par x p := by
    have := bq_par_nA H hx xt
    rw [ep] at this
    exact this
  obtain ⟨d, hD⟩ := bq_ex H
  have dx := hD.2.1 x hx xt
  have ds := hD.2.1 s hs st
  rw [ep] at dx
  rw [es] at ds
  have nsx : ¬ bq_A top par x s := fun q => by
    rcases bq_A_d H hD x s hs q with r | r
    · exact sx r
    · omega
  have xp : x ≠ p := fun q => npx (by rw [← q]; exact bq_A_rf x)
  have sp : s ≠ p := fun q => by
    rw [q] at ds
    omega
  have tp : p = top → y ≠ top := fun q r => yp (r.trans q.symm)
  have zt : ∀ z, z ≠ top' → z ≠ s → z ≠ p → z ≠ y → z ≠ top := fun z a b e f q => by
    have hpt : p ≠ top := fun r => e (q.trans r.symm)
    have hyt : y ≠ top := fun r => f (q.trans r.symm)
    exact a (q.trans (t3 hpt hyt).symm)
  have tz : ∀ z, z ≠ top → z ≠ s → z ≠ p → z ≠ top' := fun z a b e q => by
    by_cases r : p = top
    · exact b (q.trans (t1 r))
    by_cases u : y = top
    · exact e (q.trans (t2 r u))
    · exact a (q.trans (t3 r u))
  have yt' : y ≠ top' := fun q => by
    by_cases r : p = top
    · exact ys (q.trans (t1 r))
    by_cases u : y = top
    · exact yp (q.trans (t2 r u))
    · exact u (q.trans (t3 r u))
  refine ⟨⟨bq_c1 H, bq_c7 H, ?_⟩, ?_, ?_, ?_⟩
  · by_cases r : p = top
    · rw [t1 r]
      exact hs
    by_cases u : y = top
    · rw [t2 r u]
      exact vp
    · rw [t3 r u]
      exact bq_vt H
  · intro z hz hn
    by_cases e1 : z = x
    · rw [e1, hPx]
      exact ⟨p8, p7, Or.inr wP⟩
    by_cases e2 : z = y
    · rw [e2, hPy]
      exact ⟨p8, p7, Or.inl oP⟩
    by_cases e3 : z = s
    · have hpt : p ≠ top := fun r => hn (e3.trans (t1 r).symm)
      have a := bq_p8 H vp hpt
      have b := bq_p7 H vp hpt
      have g : par p ≠ p := fun q => by
        have := hD.2.1 p vp hpt
        rw [q] at this
        omega
      rw [e3, hPs hpt]
      refine ⟨a, b, ?_⟩
      rcases bq_pk H vp hpt with k | k
      · exact Or.inl (o1 _ a b g k)
      · exact Or.inr (w1 _ a b g k)
    by_cases e4 : z = p
    · have hyt : y ≠ top := fun u => by
        by_cases r : p = top
        · exact tp r u
        · exact hn (e4.trans (t2 r u).symm)
      have a := bq_p8 H hy hyt
      have b := bq_p7 H hy hyt
      have g : par y ≠ p := fun q => by
        rcases hk y hy hyt q with r | r
        · exact yx r
        · exact ys r
      rw [e4, hPp hyt]
      refine ⟨a, b, ?_⟩
      rcases bq_pk H hy hyt with k | k
      · exact Or.inl (o2 _ a b g k)
      · exact Or.inr (w2 _ a b g k)
    · have hzt := zt z hn e3 e4 e2
      have a := bq_p8 H hz hzt
      have b := bq_p7 H hz hzt
      have g : par z ≠ p := fun q => by
        rcases hk z hz hzt q with r | r
        · exact e1 r
        · exact e3 r
      rw [hO z hz e1 e2 e3 e4 hzt]
      refine ⟨a, b, ?_⟩
      rcases bq_pk H hz hzt with k | k
      · exact Or.inl ((o3 _ a b g (by rw [k]; exact e4) (by rw [k]; exact e2)).trans k)
      · exact Or.inr ((w3 _ a b g (by rw [k]; exact e4) (by rw [k]; exact e2)).trans k)
  · intro q h8 h7
    by_cases e : q = p
    · rw [e, oP, wP]
      exact ⟨⟨hy, yt', hPy⟩, ⟨hx, tz x xt (fun r => sx r.symm) xp, hPx⟩, yx⟩
    · obtain ⟨v1, n1, p1⟩ := bq_on H h8 h7
      obtain ⟨v2, n2, p2⟩ := bq_tw H h8 h7
      have hne := bq_nt H h8 h7
      have ks : ∀ k, par k = q → k ≠ s := fun k a r => e (by rw [← a, r]; exact es)
      have kx : ∀ k, par k = q → k ≠ x := fun k a r => e (by rw [← a, r]; exact ep)
      have K : ∀ k k', bq_V c k → k ≠ top → par k = q → (k = p → k' = s) → (k = y → k' = p) → (k ≠ p → k ≠ y → k' = k) → bq_V c k' ∧ k' ≠ top' ∧ P' k' = q := by
        intro k k' v n u a b f
        by_cases e1 : k = p
        · have hpt : p ≠ top := fun r => n (e1.trans r)
          rw [a e1]
          refine ⟨hs, fun r => ?_, by rw [hPs hpt, ← e1]; exact u⟩
          by_cases w : y = top
          · exact sp (r.trans (t2 hpt w))
          · exact st (r.trans (t3 hpt w))
        by_cases e2 : k = y
        · have hyt : y ≠ top := fun r => n (e2.trans r)
          rw [b e2]
          refine ⟨vp, fun r => ?_, by rw [hPp hyt, ← e2]; exact u⟩
          by_cases w : p = top
          · exact sp (r.trans (t1 w)).symm
          · exact w (r.trans (t3 w hyt))
        · rw [f e1 e2]
          exact ⟨v, tz k n (ks k u) e1, by rw [hO k v (kx k u) e2 (ks k u) e1 n]; exact u⟩
      refine ⟨K _ _ v1 n1 p1 (o1 q h8 h7 e) (o2 q h8 h7 e) (o3 q h8 h7 e), K _ _ v2 n2 p2 (w1 q h8 h7 e) (w2 q h8 h7 e) (w3 q h8 h7 e), ?_⟩
      by_cases a1 : on q = p
      · rw [o1 q h8 h7 e a1]
        have a2 : tw q ≠ p := fun r => hne (a1.trans r.symm)
        by_cases b2 : tw q = y
        · rw [w2 q h8 h7 e b2]
          exact sp
        · rw [w3 q h8 h7 e a2 b2]
          exact fun r => ks _ p2 r.symm
      by_cases b1 : on q = y
      · rw [o2 q h8 h7 e b1]
        have b2 : tw q ≠ y := fun r => hne (b1.trans r.symm)
        by_cases a2 : tw q = p
        · rw [w1 q h8 h7 e a2]
          exact fun r => sp r.symm
        · rw [w3 q h8 h7 e a2 b2]
          exact fun r => a2 r.symm
      · rw [o3 q h8 h7 e a1 b1]
        by_cases a2 : tw q = p
        · rw [w1 q h8 h7 e a2]
          exact ks _ p1
        by_cases b2 : tw q = y
        · rw [w2 q h8 h7 e b2]
          exact a1
        · rw [w3 q h8 h7 e a2 b2]
          exact hne
  · refine ⟨fun z => if bq_A top par x z then 2 * d y + 3 + (d z - d x) else if z = p then 2 * d y + 1 else 2 * d z + 2, ?_⟩
    intro z hz hn
    show (if bq_A top par x (P' z) then 2 * d y + 3 + (d (P' z) - d x) else if P' z = p then 2 * d y + 1 else 2 * d (P' z) + 2) < (if bq_A top par x z then 2 * d y + 3 + (d z - d x) else if z = p then 2 * d y + 1 else 2 * d z + 2)
    by_cases e1 : z = x
    · rw [e1, hPx, if_neg npx, if_pos rfl, if_pos (bq_A_rf x)]
      omega
    by_cases e2 : z = y
    · rw [e2, hPy, if_neg npx, if_pos rfl, if_neg hA, if_neg yp]
      omega
    by_cases e3 : z = s
    · have hpt : p ≠ top := fun r => hn (e3.trans (t1 r).symm)
      have hp := hD.2.1 p vp hpt
      rw [e3, hPs hpt, if_neg (fun q => npx (bq_A_st H vp hpt q)), if_neg (show ¬ par p = p from fun q => by rw [q] at hp; omega), if_neg nsx, if_neg sp]
      omega
    by_cases e4 : z = p
    · have hyt : y ≠ top := fun u => by
        by_cases r : p = top
        · exact tp r u
        · exact hn (e4.trans (t2 r u).symm)
      have g : par y ≠ p := fun q => by
        rcases hk y hy hyt q with r | r
        · exact yx r
        · exact ys r
      have hq := hD.2.1 y hy hyt
      rw [e4, hPp hyt, if_neg (fun q => hA (bq_A_st H hy hyt q)), if_neg g, if_neg npx, if_pos rfl]
      omega
    · have hzt := zt z hn e3 e4 e2
      have g : par z ≠ p := fun q => by
        rcases hk z hz hzt q with r | r
        · exact e1 r
        · exact e3 r
      have h := hD.2.1 z hz hzt
      have ux := bq_A_up H hz hzt e1
      have vz := bq_pv H hz hzt
      rw [hO z hz e1 e2 e3 e4 hzt]
      by_cases q1 : bq_A top par x z
      · have q2 := ux.mp q1
        rw [if_pos q1, if_pos q2]
        rcases bq_A_d H hD x _ vz q2 with r | r
        · rw [r]
          rw [r] at h
          omega
        · omega
      · have q2 : ¬ bq_A top par x (par z) := fun r => q1 (ux.mpr r)
        rw [if_neg q1, if_neg q2, if_neg g, if_neg e4]
        omega
theorem bq_same (H : bq_T c top par on tw) (hO : ∀ z, bq_V c z → z ≠ top → P' z = par z)
    (ho : ∀ p, 8 ≤ p → p < 7 + c → (O' p = on p ∧ W' p = tw p) ∨ (O' p = tw p ∧ W' p = on p)) : bq_T c top P' O' W' := by
  refine ⟨H.1, ?_, ?_, ?_⟩
  · intro z hz hn
    have a := bq_p8 H hz hn
    have b := bq_p7 H hz hn
    rw [hO z hz hn]
    refine ⟨a, b, ?_⟩
    rcases ho _ a b with ⟨e1, e2⟩ | ⟨e1, e2⟩ <;> rw [e1, e2]
    · exact bq_pk H hz hn
    · exact (bq_pk H hz hn).symm
  · intro p h8 h7
    obtain ⟨v1, n1, p1⟩ := bq_on H h8 h7
    obtain ⟨v2, n2, p2⟩ := bq_tw H h8 h7
    have hne := bq_nt H h8 h7
    rcases ho p h8 h7 with ⟨e1, e2⟩ | ⟨e1, e2⟩ <;> rw [e1, e2]
    · exact ⟨⟨v1, n1, (hO _ v1 n1).trans p1⟩, ⟨v2, n2, (hO _ v2 n2).trans p2⟩, hne⟩
    · exact ⟨⟨v2, n2, (hO _ v2 n2).trans p2⟩, ⟨v1, n1, (hO _ v1 n1).trans p1⟩, fun q => hne q.symm⟩
  · obtain ⟨rk, hr⟩ := H.2.2.2
    exact ⟨rk, fun z hz hn => by rw [hO z hz hn]; exact hr z hz hn⟩
end
end
section
/-! leaf sets as masks and counts; the count of kept sets -/
def bq_mk (f : Nat → Bool) : Nat → Nat
  | 0 => 0
  | n + 1 => bq_mk f n + if f n = true then 2 ^ n else 0
def bq_ct (f : Nat → Bool) : Nat → Nat
  | 0 => 0
  | n + 1 => bq_ct f n + if f n = true then 1 else 0
theorem bq_mk_lt (f : Nat → Bool) : ∀ n, bq_mk f n < 2 ^ n := by
  intro n
  induction n with
  | zero => exact Nat.one_pos
  | succ n ih =>
    show bq_mk f n + (if f n = true then 2 ^ n else 0) < 2 ^ (n + 1)
    have e : 2 ^ (n + 1) = 2 ^ n + 2 ^ n := by rw [Nat.pow_succ]; omega
    rw [e]
    by_cases h : f n = true
    · rw [if_pos h]
      omega
    · rw [if_neg h]
      omega
theorem bq_mk_inj (f g : Nat → Bool) : ∀ n, bq_mk f n = bq_mk g n → ∀ l, l < n → f l = g l := by
  intro n
  induction n with
  | zero =>
    intro _ l hl
    omega
  | succ n ih =>
    intro h l hl
    have h' : bq_mk f n + (if f n = true then 2 ^ n else 0) = bq_mk g n + (if g n = true then 2 ^ n else 0) := h
    have a := bq_mk_lt f n
    have b := bq_mk_lt g n
    have hb : f n = g n ∧ bq_mk f n = bq_mk g n := by
      cases hf : f n <;> cases hg : g n <;> rw [hf, hg] at h' <;> simp at h' <;> first | exact ⟨rfl, h'⟩ | omega
    by_cases e : l = n
    · rw [e]
      exact hb.1
    · exact ih hb.2 l (by omega)
theorem bq_mk_cg {f g : Nat → Bool} : ∀ n, (∀ l, l < n → f l = g l) → bq_mk f n = bq_mk g n := by
  intro n
  induction n with
  | zero => intro _; rfl
  | succ n ih =>
    intro h
    show bq_mk f n + (if f n = true then 2 ^ n else 0) = bq_mk g n + (if g n = true then 2 ^ n else 0)
    rw [ih (fun l hl => h l (by omega)), h n (by omega)]
theorem bq_ct_le (f : Nat → Bool) : ∀ n, bq_ct f n ≤ n := by
  intro n
  induction n with
  | zero => exact Nat.le_refl _
  | succ n ih =>
    show bq_ct f n + (if f n = true then 1 else 0) ≤ n + 1
    by_cases h : f n = true
    · rw [if_pos h]
      omega
    · rw [if_neg h]
      omega
theorem bq_ct_mono {f g : Nat → Bool} (h : ∀ l, f l = true → g l = true) : ∀ n, bq_ct f n ≤ bq_ct g n ∧ (∀ l, l < n → f l = false → g l = true → bq_ct f n < bq_ct g n) := by
  intro n
  induction n with
  | zero => exact ⟨Nat.le_refl _, fun l hl => absurd hl (by omega)⟩
  | succ n ih =>
    have e1 : bq_ct f (n + 1) = bq_ct f n + (if f n = true then 1 else 0) := rfl
    have e2 : bq_ct g (n + 1) = bq_ct g n + (if g n = true then 1 else 0) := rfl
    have k : (if f n = true then 1 else 0) ≤ (if g n = true then 1 else 0) := by
      by_cases a : f n = true
      · rw [if_pos a, if_pos (h n a)]
        exact Nat.le_refl _
      · rw [if_neg a]
        exact Nat.zero_le _
    rw [e1, e2]
    refine ⟨by omega, fun l hl hf hg => ?_⟩
    by_cases e : l = n
    · rw [e] at hf hg
      rw [hf, hg]
      have := ih.1
      simp
      omega
    · have := ih.2 l (by omega) hf hg
      omega
theorem bq_ct_pos {f : Nat → Bool} {l : Nat} (h : f l = true) : ∀ n, l < n → 1 ≤ bq_ct f n := by
  intro n
  induction n with
  | zero => intro hl; omega
  | succ n ih =>
    intro hl
    show 1 ≤ bq_ct f n + (if f n = true then 1 else 0)
    by_cases e : l = n
    · rw [e] at h
      rw [if_pos h]
      omega
    · have := ih (by omega)
      omega
theorem bq_ct_add {f g h : Nat → Bool} (k : ∀ l, (if f l = true then 1 else 0) = (if g l = true then 1 else 0) + (if h l = true then 1 else 0)) : ∀ n, bq_ct f n = bq_ct g n + bq_ct h n := by
  intro n
  induction n with
  | zero => rfl
  | succ n ih =>
    show bq_ct f n + (if f n = true then 1 else 0) = bq_ct g n + (if g n = true then 1 else 0) + (bq_ct h n + (if h n = true then 1 else 0))
    rw [ih, k n]
    omega
theorem bq_ct_c : ∀ c, c < 8 → bq_ct (fun l => decide (l < c)) 7 = c := by decide
theorem bq_bit (f : Nat → Bool) : bq_mk f 7 % 2 + bq_mk f 7 / 2 % 2 + bq_mk f 7 / 4 % 2 + bq_mk f 7 / 8 % 2 + bq_mk f 7 / 16 % 2 + bq_mk f 7 / 32 % 2 + bq_mk f 7 / 64 % 2 = bq_ct f 7 := by
  have e : bq_mk f 7 = 0 + (if f 0 = true then 2 ^ 0 else 0) + (if f 1 = true then 2 ^ 1 else 0) + (if f 2 = true then 2 ^ 2 else 0) + (if f 3 = true then 2 ^ 3 else 0) + (if f 4 = true then 2 ^ 4 else 0) + (if f 5 = true then 2 ^ 5 else 0) + (if f 6 = true then 2 ^ 6 else 0) := rfl
  have e2 : bq_ct f 7 = 0 + (if f 0 = true then 1 else 0) + (if f 1 = true then 1 else 0) + (if f 2 = true then 1 else 0) + (if f 3 = true then 1 else 0) + (if f 4 = true then 1 else 0) + (if f 5 = true then 1 else 0) + (if f 6 = true then 1 else 0) := rfl
  rw [e, e2]
  cases f 0 <;> cases f 1 <;> cases f 2 <;> cases f 3 <;> cases f 4 <;> cases f 5 <;> cases f 6 <;> rfl
def bq_lf (c top : Nat) (par : Nat → Nat) (x l : Nat) : Bool := decide (l < c) && bq_an top par x 7 l
def bq_B (c top : Nat) (par : Nat → Nat) (x : Nat) : Nat := bq_mk (bq_lf c top par x) 7
def bq_n (c top : Nat) (par : Nat → Nat) (x : Nat) : Nat := bq_ct (bq_lf c top par x) 7
theorem bq_lf_t {c top : Nat} {par : Nat → Nat} {x l : Nat} (hl : l < c) : bq_lf c top par x l = true ↔ bq_A top par x l := by
  rw [bq_lf, decide_eq_true hl, Bool.true_and]
theorem bq_lf_f {c top : Nat} {par : Nat → Nat} {x l : Nat} (hl : ¬ l < c) : bq_lf c top par x l = false := by
  rw [bq_lf, decide_eq_false hl, Bool.false_and]
theorem bq_lf_c {c top : Nat} {par : Nat → Nat} {x l : Nat} (h : bq_lf c top par x l = true) : l < c := by
  by_cases hl : l < c
  · exact hl
  · rw [bq_lf_f hl] at h
    exact Bool.noConfusion h
theorem bq_mk_c (c top : Nat) (par : Nat → Nat) (x : Nat) : ∀ n, bq_mk (bq_lf c top par x) (c + n) = bq_mk (bq_lf c top par x) c := by
  intro n
  induction n with
  | zero => rfl
  | succ n ih =>
    show bq_mk (bq_lf c top par x) (c + n) + (if bq_lf c top par x (c + n) = true then 2 ^ (c + n) else 0) = _
    rw [bq_lf_f (show ¬ c + n < c by omega), ih]
    rfl
section
variable {c top : Nat} {par on tw : Nat → Nat}
theorem bq_n_add (H : bq_T c top par on tw) {p : Nat} (h8 : 8 ≤ p) (h7 : p < 7 + c) : bq_n c top par p = bq_n c top par (on p) + bq_n c top par (tw p) := by
  refine bq_ct_add (fun l => ?_) 7
  by_cases hl : l < c
  · have hv : bq_V c l := Or.inl hl
    have c7 := bq_c7 H
    by_cases a : bq_A top par (on p) l
    · have b : ¬ bq_A top par (tw p) l := fun b => bq_A_sib H h8 h7 hv a b
      have e : bq_A top par p l := bq_A_tr H (bq_A_onp H h8 h7) l hv a
      rw [if_pos ((bq_lf_t hl).mpr e), if_pos ((bq_lf_t hl).mpr a), if_neg (fun q => b ((bq_lf_t hl).mp q))]
    · by_cases b : bq_A top par (tw p) l
      · have e : bq_A top par p l := bq_A_tr H (bq_A_twp H h8 h7) l hv b
        rw [if_pos ((bq_lf_t hl).mpr e), if_neg (fun q => a ((bq_lf_t hl).mp q)), if_pos ((bq_lf_t hl).mpr b)]
      · have e : ¬ bq_A top par p l := fun q => by
          rcases bq_A_kid H p l hv q with r | r | r
          · omega
          · exact a r
          · exact b r
        rw [if_neg (fun q => e ((bq_lf_t hl).mp q)), if_neg (fun q => a ((bq_lf_t hl).mp q)), if_neg (fun q => b ((bq_lf_t hl).mp q))]
  · rw [bq_lf_f hl, bq_lf_f hl, bq_lf_f hl]
    rfl
theorem bq_n_le (x : Nat) : bq_n c top par x ≤ 7 := bq_ct_le _ 7
theorem bq_n_pos (H : bq_T c top par on tw) {z : Nat} (hz : bq_V c z) : 1 ≤ bq_n c top par z := by
  obtain ⟨l, hl, h⟩ := bq_leaf H z hz
  have := bq_c7 H
  exact bq_ct_pos ((bq_lf_t hl).mpr h) 7 (by omega)
theorem bq_t8 (H : bq_T c top par on tw) : ∀ z, bq_V c z → z = top ∨ 8 ≤ top := by
  refine bq_ind H _ (Or.inl rfl) ?_
  intro z hz ht ih
  rcases ih with e | e
  · have := bq_p8 H hz ht
    exact Or.inr (by omega)
  · exact Or.inr e
theorem bq_B_inj (H : bq_T c top par on tw) {z w : Nat} (hz : bq_V c z) (hz8 : 8 ≤ z) (hw : bq_V c w) (hw8 : 8 ≤ w) (h : bq_B c top par z = bq_B c top par w) : z = w := by
  have h7 := bq_c7 H
  refine bq_inj H hz hz8 hw hw8 (fun l hl => ?_)
  have e := bq_mk_inj _ _ 7 h l (by omega)
  rw [← bq_lf_t hl, ← bq_lf_t hl, e]
theorem bq_B_pos (H : bq_T c top par on tw) {z : Nat} (hz : bq_V c z) : bq_B c top par z ≠ 0 := by
  intro h
  obtain ⟨l, hl, ha⟩ := bq_leaf H z hz
  have h7 := bq_c7 H
  have e0 : ∀ n, bq_mk (fun _ => false) n = 0 := by
    intro n
    induction n with
    | zero => rfl
    | succ n ih =>
      show bq_mk (fun _ => false) n + (if false = true then 2 ^ n else 0) = 0
      rw [ih]
      rfl
  have e := bq_mk_inj _ (fun _ => false) 7 (h.trans (e0 7).symm) l (by omega)
  rw [(bq_lf_t hl).mpr ha] at e
  exact Bool.noConfusion e
theorem bq_n_top (H : bq_T c top par on tw) : bq_n c top par top = c := by
  have h7 := bq_c7 H
  have e : ∀ l, bq_lf c top par top l = decide (l < c) := by
    intro l
    by_cases hl : l < c
    · rw [(bq_lf_t hl).mpr (bq_A_all H l (Or.inl hl)), decide_eq_true hl]
    · rw [bq_lf_f hl, decide_eq_false hl]
  rw [bq_n, show bq_lf c top par top = (fun l => decide (l < c)) from funext e]
  exact bq_ct_c c (by omega)
theorem bq_n_lt (H : bq_T c top par on tw) {z : Nat} (hz : bq_V c z) (ht : z ≠ top) : bq_n c top par z < c := by
  have h7 := bq_c7 H
  rcases bq_t8 H z hz with e | e
  · exact absurd e ht
  · obtain ⟨l, hl, a, b⟩ := bq_sep H (bq_vt H) e hz (bq_A_all H z hz) (fun q => ht q.symm)
    have k := (bq_ct_mono (f := bq_lf c top par z) (g := bq_lf c top par top) (fun m hm => by
      have hm' := bq_lf_c hm
      exact (bq_lf_t hm').mpr (bq_A_all H m (Or.inl hm'))) 7).2 l (by omega) (by
        cases h : bq_lf c top par z l
        · rfl
        · exact absurd ((bq_lf_t hl).mp h) b) ((bq_lf_t hl).mpr a)
    have e := bq_n_top H
    rw [bq_n] at e ⊢
    omega
theorem bq_B_top {top2 : Nat} {par2 on2 tw2 : Nat → Nat} (H : bq_T c top par on tw) (H2 : bq_T c top2 par2 on2 tw2) : bq_B c top par top = bq_B c top2 par2 top2 := by
  refine bq_mk_cg 7 (fun l _ => ?_)
  by_cases hl : l < c
  · rw [(bq_lf_t hl).mpr (bq_A_all H l (Or.inl hl)), (bq_lf_t hl).mpr (bq_A_all H2 l (Or.inl hl))]
  · rw [bq_lf_f hl, bq_lf_f hl]
end
def bq_sm (f : Nat → Nat) (a : Nat) : Nat → Nat
  | 0 => 0
  | n + 1 => bq_sm f a n + f (a + n)
def bq_hs (F : Nat → Nat) (v a : Nat) : Nat → Bool
  | 0 => false
  | n + 1 => bq_hs F v a n || decide (F (a + n) = v)
theorem bq_sm_cg {f g : Nat → Nat} {a : Nat} : ∀ n, (∀ i, a ≤ i → i < a + n → f i = g i) → bq_sm f a n = bq_sm g a n := by
  intro n
  induction n with
  | zero => intro _; rfl
  | succ n ih =>
    intro h
    show bq_sm f a n + f (a + n) = bq_sm g a n + g (a + n)
    rw [ih (fun i h1 h2 => h i h1 (by omega)), h (a + n) (by omega) (by omega)]
theorem bq_sm_0 (a : Nat) : ∀ n, bq_sm (fun _ => 0) a n = 0 := by
  intro n
  induction n with
  | zero => rfl
  | succ n ih => exact ih
theorem bq_sm_add (f g : Nat → Nat) (a : Nat) : ∀ n, bq_sm (fun i => f i + g i) a n = bq_sm f a n + bq_sm g a n := by
  intro n
  induction n with
  | zero => rfl
  | succ n ih =>
    show bq_sm (fun i => f i + g i) a n + (f (a + n) + g (a + n)) = bq_sm f a n + f (a + n) + (bq_sm g a n + g (a + n))
    rw [ih]
    omega
theorem bq_sm_sw (h : Nat → Nat → Nat) (a b m : Nat) : ∀ n, bq_sm (fun i => bq_sm (fun j => h i j) b m) a n = bq_sm (fun j => bq_sm (fun i => h i j) a n) b m := by
  intro n
  induction n with
  | zero => exact (bq_sm_0 b m).symm
  | succ n ih =>
    show bq_sm (fun i => bq_sm (fun j => h i j) b m) a n + bq_sm (fun j => h (a + n) j) b m = bq_sm (fun j => bq_sm (fun i => h i j) a n + h (a + n) j) b m
    rw [ih, bq_sm_add]
theorem bq_hs_t {F : Nat → Nat} {v a : Nat} : ∀ n, bq_hs F v a n = true ↔ ∃ i, a ≤ i ∧ i < a + n ∧ F i = v := by
  intro n
  induction n with
  | zero =>
    constructor
    · intro h
      exact Bool.noConfusion h
    · intro ⟨i, h1, h2, _⟩
      omega
  | succ n ih =>
    show (bq_hs F v a n || decide (F (a + n) = v)) = true ↔ _
    rw [Bool.or_eq_true, ih, decide_eq_true_eq]
    constructor
    · rintro (⟨i, h1, h2, h3⟩ | h)
      · exact ⟨i, h1, by omega, h3⟩
      · exact ⟨a + n, by omega, by omega, h⟩
    · intro ⟨i, h1, h2, h3⟩
      by_cases e : i = a + n
      · rw [e] at h3
        exact Or.inr h3
      · exact Or.inl ⟨i, h1, by omega, h3⟩
theorem bq_sm_1 {F : Nat → Nat} (v a : Nat) : ∀ n, (∀ i j, a ≤ i → i < a + n → a ≤ j → j < a + n → F i = F j → i = j) →
    bq_sm (fun i => if F i = v then 1 else 0) a n = if bq_hs F v a n = true then 1 else 0 := by
  intro n
  induction n with
  | zero => intro _; rfl
  | succ n ih =>
    intro hi
    have ih' := ih (fun i j a1 a2 a3 a4 e => hi i j a1 (by omega) a3 (by omega) e)
    show bq_sm (fun i => if F i = v then 1 else 0) a n + (if F (a + n) = v then 1 else 0) = _
    rw [ih']
    by_cases h1 : bq_hs F v a n = true
    · obtain ⟨i, a1, a2, a3⟩ := (bq_hs_t n).mp h1
      have h2 : ¬ F (a + n) = v := fun q => by
        have := hi i (a + n) a1 (by omega) (by omega) (by omega) (a3.trans q.symm)
        omega
      have h3 : bq_hs F v a (n + 1) = true := (bq_hs_t (n + 1)).mpr ⟨i, a1, by omega, a3⟩
      rw [if_pos h1, if_neg h2, if_pos h3]
    · rw [if_neg h1]
      by_cases h2 : F (a + n) = v
      · have h3 : bq_hs F v a (n + 1) = true := (bq_hs_t (n + 1)).mpr ⟨a + n, by omega, by omega, h2⟩
        rw [if_pos h2, if_pos h3]
      · have h3 : ¬ bq_hs F v a (n + 1) = true := fun q => by
          obtain ⟨i, a1, a2, a3⟩ := (bq_hs_t (n + 1)).mp q
          by_cases e : i = a + n
          · rw [e] at a3
            exact h2 a3
          · exact h1 ((bq_hs_t n).mpr ⟨i, a1, by omega, a3⟩)
        rw [if_neg h2, if_neg h3]
/-- kept sets counted from either side -/
theorem bq_kept {F G : Nat → Nat} {a n top : Nat} (hF : ∀ i j, a ≤ i → i < a + n → a ≤ j → j < a + n → F i = F j → i = j)
    (hG : ∀ i j, a ≤ i → i < a + n → a ≤ j → j < a + n → G i = G j → i = j)
    (ht : ∀ i j, a ≤ i → i < a + n → a ≤ j → j < a + n → F j = G i → (i = top ↔ j = top)) :
    bq_sm (fun i => if i ≠ top ∧ bq_hs F (G i) a n = true then 1 else 0) a n = bq_sm (fun j => if j ≠ top ∧ bq_hs G (F j) a n = true then 1 else 0) a n := by
  have e1 : ∀ i, a ≤ i → i < a + n → (if i ≠ top ∧ bq_hs F (G i) a n = true then 1 else 0) = bq_sm (fun j => if i ≠ top ∧ F j = G i then 1 else 0) a n := by
    intro i _ _
    by_cases h : i = top
    · rw [if_neg (fun q => q.1 h), bq_sm_cg (g := fun _ => 0) n (fun j _ _ => if_neg (fun q => q.1 h)), bq_sm_0]
    · rw [bq_sm_cg (g := fun j => if F j = G i then 1 else 0) n (fun j _ _ => by
        by_cases q : F j = G i
        · rw [if_pos ⟨h, q⟩, if_pos q]
        · rw [if_neg (fun r => q r.2), if_neg q]), bq_sm_1 (G i) a n hF]
      by_cases q : bq_hs F (G i) a n = true
      · rw [if_pos ⟨h, q⟩, if_pos q]
      · rw [if_neg (fun r => q r.2), if_neg q]
  have e2 : ∀ j, a ≤ j → j < a + n → (if j ≠ top ∧ bq_hs G (F j) a n = true then 1 else 0) = bq_sm (fun i => if j ≠ top ∧ G i = F j then 1 else 0) a n := by
    intro j _ _
    by_cases h : j = top
    · rw [if_neg (fun q => q.1 h), bq_sm_cg (g := fun _ => 0) n (fun i _ _ => if_neg (fun q => q.1 h)), bq_sm_0]
    · rw [bq_sm_cg (g := fun i => if G i = F j then 1 else 0) n (fun i _ _ => by
        by_cases q : G i = F j
        · rw [if_pos ⟨h, q⟩, if_pos q]
        · rw [if_neg (fun r => q r.2), if_neg q]), bq_sm_1 (F j) a n hG]
      by_cases q : bq_hs G (F j) a n = true
      · rw [if_pos ⟨h, q⟩, if_pos q]
      · rw [if_neg (fun r => q r.2), if_neg q]
  rw [bq_sm_cg n e1, bq_sm_cg n e2, bq_sm_sw]
  refine bq_sm_cg n (fun j b1 b2 => bq_sm_cg n (fun i a1 a2 => ?_))
  by_cases q : F j = G i
  · have k := ht i j a1 a2 b1 b2 q
    by_cases h : i = top
    · rw [if_neg (fun r => r.1 h), if_neg (fun r => r.1 (k.mp h))]
    · rw [if_pos ⟨h, q⟩, if_pos ⟨fun r => h (k.mpr r), q.symm⟩]
  · rw [if_neg (fun r => q r.2), if_neg (fun r => q r.2.symm)]
end
section
/-! least costs, ways and weights: what each side's arrays satisfy locally, and that then they agree -/
def bq_l (st : Int32) (co lo : Nat → Int32) (a b : Nat) : Nat → Int32
  | 0 => st
  | t + 1 => if co (a + t) + lo (b + t) < bq_l st co lo a b t then co (a + t) + lo (b + t) else bq_l st co lo a b t
def bq_w (st : Int32) (co lo mn : Nat → Int32) (a b : Nat) : Nat → Int32
  | 0 => 0
  | t + 1 => if co (a + t) + lo (b + t) = (if co (a + t) + lo (b + t) < bq_l st co lo a b t then co (a + t) + lo (b + t) else bq_l st co lo a b t)
      then (if co (a + t) + lo (b + t) < bq_l st co lo a b t then 0 else bq_w st co lo mn a b t) + mn (b + t)
      else (if co (a + t) + lo (b + t) < bq_l st co lo a b t then 0 else bq_w st co lo mn a b t)
def bq_s (ra : Nat → Int32) (su : Nat → Int64) (a b : Nat) : Nat → Int64
  | 0 => 0
  | t + 1 => bq_s ra su a b t + (ra (a + t)).toInt64 * su (b + t)
theorem bq_l_cg {st : Int32} {co lo lo' : Nat → Int32} {a b b' : Nat} : ∀ t, (∀ i, i < t → lo (b + i) = lo' (b' + i)) → bq_l st co lo a b t = bq_l st co lo' a b' t := by
  intro t
  induction t with
  | zero => intro _; rfl
  | succ t ih =>
    intro h
    simp only [bq_l]
    rw [ih (fun i hi => h i (by omega)), h t (by omega)]
theorem bq_w_cg {st : Int32} {co lo lo' mn mn' : Nat → Int32} {a b b' : Nat} : ∀ t, (∀ i, i < t → lo (b + i) = lo' (b' + i)) → (∀ i, i < t → mn (b + i) = mn' (b' + i)) → bq_w st co lo mn a b t = bq_w st co lo' mn' a b' t := by
  intro t
  induction t with
  | zero => intro _ _; rfl
  | succ t ih =>
    intro h h2
    simp only [bq_w]
    rw [ih (fun i hi => h i (by omega)) (fun i hi => h2 i (by omega)), bq_l_cg t (fun i hi => h i (by omega)), h t (by omega), h2 t (by omega)]
theorem bq_s_cg {ra : Nat → Int32} {su su' : Nat → Int64} {a b b' : Nat} : ∀ t, (∀ i, i < t → su (b + i) = su' (b' + i)) → bq_s ra su a b t = bq_s ra su' a b' t := by
  intro t
  induction t with
  | zero => intro _; rfl
  | succ t ih =>
    intro h
    simp only [bq_s]
    rw [ih (fun i hi => h i (by omega)), h t (by omega)]
/-- component's l, w and reference's m, n agree where the reference's is finite; N leaves below -/
def bq_RL (N : Nat) (l w m n : Int32) : Prop := (∃ k, k + 18 ≤ 18 * N ∧ l = nI k ∧ m = nI k ∧ w = n) ∨ (m = nI 1000 ∧ ∃ k, 1000000 ≤ k ∧ k ≤ 5000000 ∧ l = nI k)
def bq_RB (N : Nat) (l w m n : Int32) : Prop := (∃ k, k + 9 ≤ 18 * N ∧ l = nI k ∧ m = nI k ∧ w = n) ∨ (m = nI 1000 ∧ ∃ k, 1000000 ≤ k ∧ k ≤ 2000000 ∧ l = nI k)
theorem bq_stp {N kc : Nat} (hN : N ≤ 7) (hk : kc ≤ 9) {L W M Z l w m z : Int32} (h : bq_RL N l w m z) (h' : bq_RB N L W M Z) :
    bq_RB N (if nI kc + l < L then nI kc + l else L)
      (if nI kc + l = (if nI kc + l < L then nI kc + l else L) then (if nI kc + l < L then 0 else W) + w else (if nI kc + l < L then 0 else W))
      (if nI kc + m < M then nI kc + m else M)
      (if nI kc + m = (if nI kc + m < M then nI kc + m else M) then (if nI kc + m < M then 0 else Z) + z else (if nI kc + m < M then 0 else Z)) := by
  rcases h with ⟨k, hk1, e1, e2, e3⟩ | ⟨e2, k, hk1, hk2, e1⟩
  · rcases h' with ⟨q, hq, f1, f2, f3⟩ | ⟨f2, q, hq1, hq2, f1⟩
    · rw [e1, e2, e3, f1, f2, f3, nI_add]
      by_cases c : kc + k < q
      · have cX : nI (kc + k) < nI q := nI_lt c (by omega)
        simp only [if_pos cX]
        exact Or.inl ⟨kc + k, by omega, rfl, rfl, rfl⟩
      · have cX : ¬ nI (kc + k) < nI q := nI_nlt (by omega) (by omega)
        simp only [if_neg cX]
        exact Or.inl ⟨q, hq, rfl, rfl, rfl⟩
    · rw [e1, e2, e3, f1, f2, nI_add]
      have cX : nI (kc + k) < nI q := nI_lt (by omega) (by omega)
      have cY : nI (kc + k) < nI 1000 := nI_lt (by omega) (by omega)
      simp only [if_pos cX, if_pos cY]
      exact Or.inl ⟨kc + k, by omega, rfl, rfl, rfl⟩
  · rcases h' with ⟨q, hq, f1, f2, f3⟩ | ⟨f2, q, hq1, hq2, f1⟩
    · rw [e1, e2, f1, f2, f3, nI_add, nI_add]
      have cX : ¬ nI (kc + k) < nI q := nI_nlt (by omega) (by omega)
      have cY : ¬ nI (kc + 1000) < nI q := nI_nlt (by omega) (by omega)
      have dX : ¬ nI (kc + k) = nI q := fun e => by
        rw [nI_eq (by omega) (by omega)] at e
        omega
      have dY : ¬ nI (kc + 1000) = nI q := fun e => by
        rw [nI_eq (by omega) (by omega)] at e
        omega
      simp only [if_neg cX, if_neg cY, if_neg dX, if_neg dY]
      exact Or.inl ⟨q, hq, rfl, rfl, rfl⟩
    · rw [e1, e2, f1, f2, nI_add, nI_add]
      have cY : ¬ nI (kc + 1000) < nI 1000 := nI_nlt (by omega) (by omega)
      refine Or.inr ⟨if_neg cY, ?_⟩
      by_cases c : kc + k < q
      · have cX : nI (kc + k) < nI q := nI_lt c (by omega)
        exact ⟨kc + k, by omega, by omega, if_pos cX⟩
      · have cX : ¬ nI (kc + k) < nI q := nI_nlt (by omega) (by omega)
        exact ⟨q, hq1, hq2, if_neg cX⟩
theorem bq_lw {N : Nat} (hN : N ≤ 7) {co le wa lo mn : Nat → Int32} {a b b' : Nat} (hc : ∀ t, t < 4 → ∃ k, k ≤ 9 ∧ co (a + t) = nI k)
    (h : ∀ t, t < 4 → bq_RL N (le (b + t)) (wa (b + t)) (lo (b' + t)) (mn (b' + t))) :
    ∀ t, t ≤ 4 → bq_RB N (bq_l 2000000 co le a b t) (bq_w 2000000 co le wa a b t) (bq_l 1000 co lo a b' t) (bq_w 1000 co lo mn a b' t) := by
  intro t
  induction t with
  | zero => intro _; exact Or.inr ⟨rfl, 2000000, by omega, by omega, rfl⟩
  | succ t ih =>
    intro ht
    obtain ⟨kc, hk, ec⟩ := hc t (by omega)
    have := bq_stp hN hk (h t (by omega)) (ih (by omega))
    rw [← ec] at this
    exact this
theorem bq_fin {N : Nat} (hN : N ≤ 7) {co lo : Nat → Int32} {a b : Nat} (hc : ∀ t, t < 4 → ∃ k, k ≤ 9 ∧ co (a + t) = nI k)
    (h : ∀ t, t < 4 → (∃ k, k + 18 ≤ 18 * N ∧ lo (b + t) = nI k) ∨ lo (b + t) = nI 1000) :
    ∀ t, t ≤ 4 → ((∃ k, k + 9 ≤ 18 * N ∧ bq_l 1000 co lo a b t = nI k) ∨ (bq_l 1000 co lo a b t = nI 1000 ∧ ∀ i, i < t → lo (b + i) = nI 1000)) := by
  intro t
  induction t with
  | zero => intro _; exact Or.inr ⟨rfl, fun i hi => absurd hi (by omega)⟩
  | succ t ih =>
    intro ht
    obtain ⟨kc, hk, ec⟩ := hc t (by omega)
    simp only [bq_l]
    rw [ec]
    rcases h t (by omega) with ⟨k, hk1, e⟩ | e
    · rw [e, nI_add]
      rcases ih (by omega) with ⟨q, hq, f⟩ | ⟨f, _⟩
      · rw [f]
        by_cases c : kc + k < q
        · exact Or.inl ⟨kc + k, by omega, if_pos (nI_lt c (by omega))⟩
        · exact Or.inl ⟨q, hq, if_neg (nI_nlt (by omega) (by omega))⟩
      · rw [f]
        exact Or.inl ⟨kc + k, by omega, if_pos (nI_lt (by omega) (by omega))⟩
    · rw [e, nI_add]
      rcases ih (by omega) with ⟨q, hq, f⟩ | ⟨f, g⟩
      · rw [f]
        exact Or.inl ⟨q, hq, if_neg (nI_nlt (by omega) (by omega))⟩
      · rw [f]
        refine Or.inr ⟨if_neg (nI_nlt (by omega) (by omega)), fun i hi => ?_⟩
        by_cases c : i = t
        · rw [c]
          exact e
        · exact g i (by omega)
def bq_cap (ok : Bool) (b1 b2 : Int32) : Int32 := if 1000 < (if ok = true then 0 else 1000 : Int64) + b1.toInt64 + b2.toInt64 then 1000 else ((if ok = true then 0 else 1000 : Int64) + b1.toInt64 + b2.toInt64).toInt32
def bq_mny (ok : Bool) (b1 b2 : Int32) : Int32 := ((if ok = true then 1 else 0 : Int64) * b1.toInt64 * b2.toInt64).toInt32
theorem bq_capN {k1 k2 : Nat} (h1 : k1 ≤ 1000) (h2 : k2 ≤ 1000) (ok : Bool) : bq_cap ok (nI k1) (nI k2) = nI (if (if ok = true then 0 else 1000) + k1 + k2 ≤ 1000 then (if ok = true then 0 else 1000) + k1 + k2 else 1000) := by
  have e : (if ok = true then 0 else 1000 : Int64) = lN (if ok = true then 0 else 1000) := by cases ok <;> rfl
  have b : (if ok = true then 0 else 1000) ≤ 1000 := by cases ok <;> decide
  rw [bq_cap, e, nI_l (by omega), nI_l (by omega), lN_add, lN_add]
  generalize (if ok = true then 0 else 1000) = w at *
  have c1 : (1000 : Int64) = lN 1000 := rfl
  by_cases c : w + k1 + k2 ≤ 1000
  · rw [if_pos c, if_neg (by rw [c1, lN_lt (by omega) (by omega)]; omega), lN_i]
  · rw [if_neg c, if_pos (by rw [c1, lN_lt (by omega) (by omega)]; omega)]
    rfl
theorem bq_mny1 (b1 b2 : Int32) : bq_mny true b1 b2 = b1 * b2 := by
  rw [bq_mny, if_pos rfl, Int64.one_mul, Int64.toInt32_mul, Int32.toInt32_toInt64, Int32.toInt32_toInt64]
theorem bq_node {N1 N2 N : Nat} (hN : N1 + N2 = N) (h7 : N ≤ 7) (p1 : 1 ≤ N1) (p2 : 1 ≤ N2) (ok : Bool) {L1 W1 M1 Z1 L2 W2 M2 Z2 : Int32} (h1 : bq_RB N1 L1 W1 M1 Z1) (h2 : bq_RB N2 L2 W2 M2 Z2) :
    bq_RL N ((if ok = true then 0 else 1000000) + L1 + L2) (W1 * W2) (bq_cap ok M1 M2) (bq_mny ok Z1 Z2) := by
  have e0 : (if ok = true then 0 else 1000000 : Int32) = nI (if ok = true then 0 else 1000000) := by cases ok <;> rfl
  rw [e0]
  rcases h1 with ⟨k1, a1, l1, m1, w1⟩ | ⟨m1, k1, a1, b1, l1⟩
  · rcases h2 with ⟨k2, a2, l2, m2, w2⟩ | ⟨m2, k2, a2, b2, l2⟩
    · rw [l1, m1, l2, m2, w1, w2, nI_add, nI_add, bq_capN (by omega) (by omega)]
      cases ok
      · refine Or.inr ⟨congrArg nI ?_, 1000000 + k1 + k2, by omega, by omega, rfl⟩
        show (if 1000 + k1 + k2 ≤ 1000 then 1000 + k1 + k2 else 1000) = 1000
        by_cases c : 1000 + k1 + k2 ≤ 1000
        · rw [if_pos c]
          omega
        · rw [if_neg c]
      · refine Or.inl ⟨0 + k1 + k2, by omega, rfl, congrArg nI ?_, (bq_mny1 _ _).symm⟩
        show (if 0 + k1 + k2 ≤ 1000 then 0 + k1 + k2 else 1000) = 0 + k1 + k2
        rw [if_pos (by omega)]
    · rw [l1, m1, l2, m2, nI_add, nI_add, bq_capN (by omega) (by omega)]
      refine Or.inr ⟨congrArg nI ?_, (if ok = true then 0 else 1000000) + k1 + k2, by omega, ?_, rfl⟩
      · generalize (if ok = true then 0 else 1000) = w
        by_cases c : w + k1 + 1000 ≤ 1000
        · rw [if_pos c]
          omega
        · rw [if_neg c]
      · have : (if ok = true then 0 else 1000000) ≤ 1000000 := by cases ok <;> decide
        omega
  · rcases h2 with ⟨k2, a2, l2, m2, w2⟩ | ⟨m2, k2, a2, b2, l2⟩
    · rw [l1, m1, l2, m2, nI_add, nI_add, bq_capN (by omega) (by omega)]
      refine Or.inr ⟨congrArg nI ?_, (if ok = true then 0 else 1000000) + k1 + k2, by omega, ?_, rfl⟩
      · generalize (if ok = true then 0 else 1000) = w
        by_cases c : w + 1000 + k2 ≤ 1000
        · rw [if_pos c]
          omega
        · rw [if_neg c]
      · have : (if ok = true then 0 else 1000000) ≤ 1000000 := by cases ok <;> decide
        omega
    · rw [l1, m1, l2, m2, nI_add, nI_add, bq_capN (by omega) (by omega)]
      refine Or.inr ⟨congrArg nI ?_, (if ok = true then 0 else 1000000) + k1 + k2, by omega, ?_, rfl⟩
      · generalize (if ok = true then 0 else 1000) = w
        by_cases c : w + 1000 + 1000 ≤ 1000
        · rw [if_pos c]
          omega
        · rw [if_neg c]
      · have : (if ok = true then 0 else 1000000) ≤ 1000000 := by cases ok <;> decide
        omega
/-- the component's least and ways, settled everywhere -/
def bq_XS (c : Nat) (on tw : Nat → Nat) (ok : Nat → Nat → Bool) (co le wa : Nat → Int32) : Prop :=
  ∀ z, bq_V c z → ∀ s, s < 4 →
    (z < 8 → le (4 * z + s) = (if ok z s = true then 0 else 1000000) ∧ wa (4 * z + s) = 1) ∧
    (8 ≤ z → le (4 * z + s) = (if ok z s = true then 0 else 1000000) + bq_l 2000000 co le (4 * s) (4 * on z) 4 + bq_l 2000000 co le (4 * s) (4 * tw z) 4 ∧
      wa (4 * z + s) = bq_w 2000000 co le wa (4 * s) (4 * on z) 4 * bq_w 2000000 co le wa (4 * s) (4 * tw z) 4)
/-- the reference's at node z -/
def bq_YZ (on tw : Nat → Nat) (ok : Nat → Nat → Bool) (co ra lo mn : Nat → Int32) (su : Nat → Int64) (z : Nat) : Prop :=
  ∀ s, s < 4 →
    (z < 8 → lo (4 * z + s) = (if ok z s = true then 0 else 1000) ∧ mn (4 * z + s) = (if ok z s = true then 1 else 0) ∧ su (4 * z + s) = (if ok z s = true then 1 else 0)) ∧
    (8 ≤ z → lo (4 * z + s) = bq_cap (ok z s) (bq_l 1000 co lo (4 * s) (4 * on z) 4) (bq_l 1000 co lo (4 * s) (4 * tw z) 4) ∧
      mn (4 * z + s) = bq_mny (ok z s) (bq_w 1000 co lo mn (4 * s) (4 * on z) 4) (bq_w 1000 co lo mn (4 * s) (4 * tw z) 4) ∧
      su (4 * z + s) = (if ok z s = true then 1 else 0) * bq_s ra su (4 * s) (4 * on z) 4 * bq_s ra su (4 * s) (4 * tw z) 4)
def bq_YS (c : Nat) (on tw : Nat → Nat) (ok : Nat → Nat → Bool) (co ra lo mn : Nat → Int32) (su : Nat → Int64) : Prop :=
  ∀ z, bq_V c z → bq_YZ on tw ok co ra lo mn su z
/-- the component's weights -/
def bq_XW (c : Nat) (on tw : Nat → Nat) (ok : Nat → Nat → Bool) (ra : Nat → Int32) (we : Nat → Int64) : Prop :=
  ∀ z, bq_V c z → ∀ s, s < 4 →
    (z < 8 → we (4 * z + s) = (if ok z s = true then 1 else 0)) ∧
    (8 ≤ z → we (4 * z + s) = (if ok z s = true then 1 else 0) * bq_s ra we (4 * s) (4 * on z) 4 * bq_s ra we (4 * s) (4 * tw z) 4)
section
variable {c top : Nat} {par on tw : Nat → Nat} {ok : Nat → Nat → Bool} {co ra le wa lo mn : Nat → Int32} {su we : Nat → Int64}
theorem bq_v7 (H : bq_T c top par on tw) {z : Nat} (hz : bq_V c z) (h8 : 8 ≤ z) : z < 7 + c := by
  have := bq_c7 H
  rcases hz with h | h <;> omega
theorem bq_hc (hco : ∀ i, i < 16 → ∃ k, k ≤ 9 ∧ co i = nI k) {s : Nat} (hs : s < 4) : ∀ t, t < 4 → ∃ k, k ≤ 9 ∧ co (4 * s + t) = nI k := fun t ht => hco (4 * s + t) (by omega)
theorem bq_rel (H : bq_T c top par on tw) (hco : ∀ i, i < 16 → ∃ k, k ≤ 9 ∧ co i = nI k) (hX : bq_XS c on tw ok co le wa) (hY : bq_YS c on tw ok co ra lo mn su) :
    ∀ z, bq_V c z → ∀ s, s < 4 → bq_RL (bq_n c top par z) (le (4 * z + s)) (wa (4 * z + s)) (lo (4 * z + s)) (mn (4 * z + s)) := by
  refine bq_dn H _ ?_ ?_
  · intro z hz h8 s hs
    have p := bq_n_pos H hz
    obtain ⟨a1, a2⟩ := (hX z hz s hs).1 h8
    obtain ⟨b1, b2, _⟩ := ((hY z hz) s hs).1 h8
    rw [a1, a2, b1, b2]
    cases ok z s
    · exact Or.inr ⟨rfl, 1000000, by omega, by omega, rfl⟩
    · exact Or.inl ⟨0, by omega, rfl, rfl, rfl⟩
  · intro z hz h8 i1 i2 s hs
    have h7 := bq_v7 H hz h8
    obtain ⟨v1, n1, _⟩ := bq_on H h8 h7
    obtain ⟨v2, n2, _⟩ := bq_tw H h8 h7
    obtain ⟨a1, a2⟩ := (hX z hz s hs).2 h8
    obtain ⟨b1, b2, _⟩ := ((hY z hz) s hs).2 h8
    rw [a1, a2, b1, b2]
    exact bq_node (bq_n_add H h8 h7).symm (bq_n_le z) (bq_n_pos H v1) (bq_n_pos H v2) (ok z s)
      (bq_lw (bq_n_le _) (bq_hc hco hs) i1 4 (Nat.le_refl _)) (bq_lw (bq_n_le _) (bq_hc hco hs) i2 4 (Nat.le_refl _))
theorem bq_RLf {N : Nat} {l w m n : Int32} (h : bq_RL N l w m n) : (∃ k, k + 18 ≤ 18 * N ∧ m = nI k) ∨ m = nI 1000 := by
  rcases h with ⟨k, a, _, b, _⟩ | ⟨a, _⟩
  · exact Or.inl ⟨k, a, b⟩
  · exact Or.inr a
theorem bq_exf (H : bq_T c top par on tw) (hco : ∀ i, i < 16 → ∃ k, k ≤ 9 ∧ co i = nI k) (hX : bq_XS c on tw ok co le wa) (hY : bq_YS c on tw ok co ra lo mn su)
    (ok1 : ∀ z, bq_V c z → z < 8 → ∃ s, s < 4 ∧ ok z s = true) (ok2 : ∀ z, bq_V c z → 8 ≤ z → ∀ s, s < 4 → ok z s = true) :
    ∀ z, bq_V c z → ∃ s, s < 4 ∧ ∃ k, k + 18 ≤ 18 * bq_n c top par z ∧ lo (4 * z + s) = nI k := by
  have R := bq_rel H hco hX hY
  refine bq_dn H _ ?_ ?_
  · intro z hz h8
    have p := bq_n_pos H hz
    obtain ⟨s, hs, h⟩ := ok1 z hz h8
    refine ⟨s, hs, 0, by omega, ?_⟩
    obtain ⟨b1, _⟩ := ((hY z hz) s hs).1 h8
    rw [b1, if_pos h]
    rfl
  · intro z hz h8 i1 i2
    have h7 := bq_v7 H hz h8
    obtain ⟨v1, n1, _⟩ := bq_on H h8 h7
    obtain ⟨v2, n2, _⟩ := bq_tw H h8 h7
    obtain ⟨b1, _⟩ := ((hY z hz) 0 (by omega)).2 h8
    have hN := bq_n_add H h8 h7
    have h77 : bq_n c top par z ≤ 7 := bq_n_le z
    have q1 := bq_n_pos H v1
    have q2 := bq_n_pos H v2
    have F : ∀ k, bq_V c k → (∃ s, s < 4 ∧ ∃ j, j + 18 ≤ 18 * bq_n c top par k ∧ lo (4 * k + s) = nI j) → ∃ j, j + 9 ≤ 18 * bq_n c top par k ∧ bq_l 1000 co lo (4 * 0) (4 * k) 4 = nI j := by
      intro k vk ⟨s, hs, j, hj, e⟩
      have n7 : bq_n c top par k ≤ 7 := bq_n_le k
      rcases bq_fin n7 (bq_hc hco (s := 0) (by omega)) (fun t ht => bq_RLf (R k vk t ht)) 4 (Nat.le_refl _) with r | ⟨_, r⟩
      · exact r
      · have r' := r s hs
        rw [e, nI_eq (by omega) (by omega)] at r'
        omega
    obtain ⟨j1, a1, f1⟩ := F _ v1 i1
    obtain ⟨j2, a2, f2⟩ := F _ v2 i2
    refine ⟨0, by omega, j1 + j2, by omega, ?_⟩
    rw [b1, f1, f2, bq_capN (by omega) (by omega), ok2 z hz h8 0 (by omega)]
    refine congrArg nI ?_
    show (if 0 + j1 + j2 ≤ 1000 then 0 + j1 + j2 else 1000) = j1 + j2
    rw [if_pos (by omega)]
    omega
theorem bq_weq (H : bq_T c top par on tw) (hX : bq_XW c on tw ok ra we) (hY : bq_YS c on tw ok co ra lo mn su) :
    ∀ z, bq_V c z → ∀ s, s < 4 → we (4 * z + s) = su (4 * z + s) := by
  refine bq_dn H _ ?_ ?_
  · intro z hz h8 s hs
    rw [(hX z hz s hs).1 h8, (((hY z hz) s hs).1 h8).2.2]
  · intro z hz h8 i1 i2 s hs
    rw [(hX z hz s hs).2 h8, (((hY z hz) s hs).2 h8).2.2, bq_s_cg 4 i1, bq_s_cg 4 i2]
end
/-- the least of four, from a start -/
def bq_m4 (st : Int32) (lo : Nat → Int32) (b : Nat) : Nat → Int32
  | 0 => st
  | t + 1 => if lo (b + t) < bq_m4 st lo b t then lo (b + t) else bq_m4 st lo b t
/-- the least cost of the whole: the component's value l, the reference's m -/
def bq_RM (l m : Int32) : Prop := (∃ k, k ≤ 108 ∧ l = nI k ∧ m = nI k) ∨ (m = nI 1000 ∧ ∃ k, 1000000 ≤ k ∧ k ≤ 5000000 ∧ l = nI k)
theorem bq_RM_of {N : Nat} (hN : N ≤ 7) {l w m n : Int32} (h : bq_RL N l w m n) : bq_RM l m := by
  rcases h with ⟨k, a, b, e, _⟩ | h
  · exact Or.inl ⟨k, by omega, b, e⟩
  · exact Or.inr h
theorem bq_RM_min {L M l m : Int32} (h' : bq_RM L M) (h : bq_RM l m) : bq_RM (if l < L then l else L) (if m < M then m else M) := by
  rcases h with ⟨k, a, e1, e2⟩ | ⟨e2, k, a, b, e1⟩
  · rcases h' with ⟨q, r, f1, f2⟩ | ⟨f2, q, r1, r2, f1⟩
    · rw [e1, e2, f1, f2]
      by_cases c : k < q
      · rw [if_pos (nI_lt c (by omega))]
        exact Or.inl ⟨k, a, rfl, rfl⟩
      · rw [if_neg (nI_nlt (by omega) (by omega))]
        exact Or.inl ⟨q, r, rfl, rfl⟩
    · rw [e1, e2, f1, f2, if_pos (nI_lt (by omega) (by omega)), if_pos (nI_lt (by omega) (by omega))]
      exact Or.inl ⟨k, a, rfl, rfl⟩
  · rcases h' with ⟨q, r, f1, f2⟩ | ⟨f2, q, r1, r2, f1⟩
    · rw [e1, e2, f1, f2, if_neg (nI_nlt (by omega) (by omega)), if_neg (nI_nlt (by omega) (by omega))]
      exact Or.inl ⟨q, r, rfl, rfl⟩
    · rw [e1, e2, f1, f2, if_neg (nI_nlt (Nat.le_refl _) (by omega))]
      refine Or.inr ⟨rfl, ?_⟩
      by_cases c : k < q
      · exact ⟨k, a, b, if_pos (nI_lt c (by omega))⟩
      · exact ⟨q, r1, r2, if_neg (nI_nlt (by omega) (by omega))⟩
theorem bq_RM_0 {l m : Int32} (h : bq_RM l m) : bq_RM l (if m < nI 1000 then m else nI 1000) := by
  rcases h with ⟨k, a, e1, e2⟩ | ⟨e2, h⟩
  · rw [e2, if_pos (nI_lt (by omega) (by omega))]
    exact Or.inl ⟨k, a, e1, rfl⟩
  · rw [e2, if_neg (nI_nlt (Nat.le_refl _) (by omega))]
    exact Or.inr ⟨rfl, h⟩
end
section
/-! the steps: one node carried up (component), one node settled (reference) -/
def bq_pr (g : Nat → Nat) : Nat → Nat → Bool
  | 0, _ => false
  | i + 1, z => bq_pr g i z || decide (g i = z)
theorem bq_pr_t {g : Nat → Nat} {z : Nat} : ∀ i, bq_pr g i z = true ↔ ∃ j, j < i ∧ g j = z := by
  intro i
  induction i with
  | zero =>
    constructor
    · intro h
      exact Bool.noConfusion h
    · intro ⟨j, h1, _⟩
      omega
  | succ i ih =>
    show (bq_pr g i z || decide (g i = z)) = true ↔ _
    rw [Bool.or_eq_true, ih, decide_eq_true_eq]
    constructor
    · rintro (⟨j, h1, h2⟩ | h)
      · exact ⟨j, by omega, h2⟩
      · exact ⟨i, by omega, h⟩
    · intro ⟨j, h1, h2⟩
      by_cases e : j = i
      · rw [e] at h2
        exact Or.inr h2
      · exact Or.inl ⟨j, by omega, h2⟩
theorem bq_pr_n {g : Nat → Nat} {i w : Nat} (h : g i ≠ w) : bq_pr g (i + 1) w = bq_pr g i w := by
  show (bq_pr g i w || decide (g i = w)) = bq_pr g i w
  rw [decide_eq_false h, Bool.or_false]
/-- g lists m nodes: all but the top, deepest first -/
def bq_G (c top : Nat) (d g : Nat → Nat) (m : Nat) : Prop :=
  (∀ j, j < m → bq_V c (g j) ∧ g j ≠ top) ∧ (∀ i j, i < j → j < m → g i ≠ g j ∧ d (g j) ≤ d (g i)) ∧ (∀ z, bq_V c z → z ≠ top → ∃ j, j < m ∧ g j = z) ∧ m ≤ 13
def bq_E (g : Nat → Nat) (i : Nat) (co le : Nat → Int32) (k s : Nat) : Int32 := if bq_pr g i k = true then bq_l 2000000 co le (4 * s) (4 * k) 4 else 0
def bq_F (g : Nat → Nat) (i : Nat) (co le wa : Nat → Int32) (k s : Nat) : Int32 := if bq_pr g i k = true then bq_w 2000000 co le wa (4 * s) (4 * k) 4 else 1
def bq_J (g : Nat → Nat) (i : Nat) (ra : Nat → Int32) (we : Nat → Int64) (k s : Nat) : Int64 := if bq_pr g i k = true then bq_s ra we (4 * s) (4 * k) 4 else 1
def bq_XI (c : Nat) (on tw : Nat → Nat) (ok : Nat → Nat → Bool) (co : Nat → Int32) (g : Nat → Nat) (i : Nat) (le wa : Nat → Int32) : Prop :=
  ∀ z, bq_V c z → ∀ s, s < 4 →
    (z < 8 → le (4 * z + s) = (if ok z s = true then 0 else 1000000) ∧ wa (4 * z + s) = 1) ∧
    (8 ≤ z → le (4 * z + s) = (if ok z s = true then 0 else 1000000) + bq_E g i co le (on z) s + bq_E g i co le (tw z) s ∧
      wa (4 * z + s) = bq_F g i co le wa (on z) s * bq_F g i co le wa (tw z) s)
def bq_XK (c : Nat) (on tw : Nat → Nat) (ok : Nat → Nat → Bool) (ra : Nat → Int32) (g : Nat → Nat) (i : Nat) (we : Nat → Int64) : Prop :=
  ∀ z, bq_V c z → ∀ s, s < 4 →
    (z < 8 → we (4 * z + s) = (if ok z s = true then 1 else 0)) ∧
    (8 ≤ z → we (4 * z + s) = (if ok z s = true then 1 else 0) * bq_J g i ra we (on z) s * bq_J g i ra we (tw z) s)
theorem bq_XI_0 {c : Nat} {on tw g : Nat → Nat} {ok : Nat → Nat → Bool} {co le wa : Nat → Int32}
    (h : ∀ z, bq_V c z → ∀ s, s < 4 → le (4 * z + s) = (if ok z s = true then 0 else 1000000) ∧ wa (4 * z + s) = 1) : bq_XI c on tw ok co g 0 le wa := by
  intro z hz s hs
  obtain ⟨a, b⟩ := h z hz s hs
  refine ⟨fun _ => ⟨a, b⟩, fun _ => ⟨?_, ?_⟩⟩
  · show _ = _ + 0 + 0
    rw [a, Int32.add_zero, Int32.add_zero]
  · show _ = (1 : Int32) * 1
    rw [b, Int32.one_mul]
theorem bq_XK_0 {c : Nat} {on tw g : Nat → Nat} {ok : Nat → Nat → Bool} {ra : Nat → Int32} {we : Nat → Int64}
    (h : ∀ z, bq_V c z → ∀ s, s < 4 → we (4 * z + s) = (if ok z s = true then 1 else 0)) : bq_XK c on tw ok ra g 0 we := by
  intro z hz s hs
  have a := h z hz s hs
  refine ⟨fun _ => a, fun _ => ?_⟩
  show _ = _ * (1 : Int64) * 1
  rw [a, Int64.mul_one, Int64.mul_one]
section
variable {c top m i : Nat} {par on tw d g : Nat → Nat} {ok : Nat → Nat → Bool} {co ra le wa le' wa' : Nat → Int32} {we we' : Nat → Int64}
theorem bq_g_facts (H : bq_T c top par on tw) (hD : bq_D c top par d) (hG : bq_G c top d g m) (hi : i < m) :
    bq_V c (g i) ∧ g i ≠ top ∧ bq_V c (par (g i)) ∧ 8 ≤ par (g i) ∧ g i ≠ par (g i) ∧ bq_pr g i (g i) = false ∧ bq_pr g i (par (g i)) = false := by
  obtain ⟨v, n⟩ := hG.1 i hi
  have dk := hD.2.1 _ v n
  refine ⟨v, n, bq_pv H v n, bq_p8 H v n, fun q => ?_, ?_, ?_⟩
  · rw [← q] at dk
    omega
  · cases h : bq_pr g i (g i)
    · rfl
    · obtain ⟨j, hj, e⟩ := (bq_pr_t i).mp h
      exact absurd e (hG.2.1 j i hj hi).1
  · cases h : bq_pr g i (par (g i))
    · rfl
    · obtain ⟨j, hj, e⟩ := (bq_pr_t i).mp h
      have := (hG.2.1 j i hj hi).2
      rw [e] at this
      omega
theorem bq_XI_s (H : bq_T c top par on tw) (hD : bq_D c top par d) (hG : bq_G c top d g m) (hi : i < m) (h : bq_XI c on tw ok co g i le wa)
    (h1 : ∀ s, s < 4 → le' (4 * par (g i) + s) = le (4 * par (g i) + s) + bq_l 2000000 co le (4 * s) (4 * g i) 4)
    (h2 : ∀ s, s < 4 → wa' (4 * par (g i) + s) = wa (4 * par (g i) + s) * bq_w 2000000 co le wa (4 * s) (4 * g i) 4)
    (h3 : ∀ z s, s < 4 → z ≠ par (g i) → le' (4 * z + s) = le (4 * z + s) ∧ wa' (4 * z + s) = wa (4 * z + s)) : bq_XI c on tw ok co g (i + 1) le' wa' := by
  obtain ⟨v, n, vp, p8, kp, f1, f2⟩ := bq_g_facts H hD hG hi
  have E1 : ∀ w s, g i ≠ w → bq_E g (i + 1) co le' w s = bq_E g i co le w s ∧ bq_F g (i + 1) co le' wa' w s = bq_F g i co le wa w s := by
    intro w s hw
    rw [bq_E, bq_E, bq_F, bq_F, bq_pr_n hw]
    by_cases q : bq_pr g i w = true
    · have wp : w ≠ par (g i) := fun r => by
        rw [r, f2] at q
        exact Bool.noConfusion q
      rw [if_pos q, if_pos q, if_pos q, if_pos q]
      exact ⟨bq_l_cg 4 (fun t ht => (h3 w t ht wp).1), bq_w_cg 4 (fun t ht => (h3 w t ht wp).1) (fun t ht => (h3 w t ht wp).2)⟩
    · rw [if_neg q, if_neg q, if_neg q, if_neg q]
      exact ⟨rfl, rfl⟩
  have t1 : bq_pr g (i + 1) (g i) = true := (bq_pr_t (i + 1)).mpr ⟨i, by omega, rfl⟩
  have E2 : ∀ s, bq_E g (i + 1) co le' (g i) s = bq_l 2000000 co le (4 * s) (4 * g i) 4 ∧ bq_F g (i + 1) co le' wa' (g i) s = bq_w 2000000 co le wa (4 * s) (4 * g i) 4 := by
    intro s
    rw [bq_E, bq_F, if_pos t1, if_pos t1]
    exact ⟨bq_l_cg 4 (fun t ht => (h3 _ t ht kp).1), bq_w_cg 4 (fun t ht => (h3 _ t ht kp).1) (fun t ht => (h3 _ t ht kp).2)⟩
  have E3 : ∀ s, bq_E g i co le (g i) s = 0 ∧ bq_F g i co le wa (g i) s = 1 := by
    intro s
    rw [bq_E, bq_F, f1]
    exact ⟨rfl, rfl⟩
  intro z hz s hs
  obtain ⟨a, b⟩ := h z hz s hs
  refine ⟨fun z8 => ?_, fun z8 => ?_⟩
  · have zp : z ≠ par (g i) := by omega
    rw [(h3 z s hs zp).1, (h3 z s hs zp).2]
    exact a z8
  · obtain ⟨b1, b2⟩ := b z8
    have z7 := bq_v7 H hz z8
    obtain ⟨_, _, po⟩ := bq_on H z8 z7
    obtain ⟨_, _, pt⟩ := bq_tw H z8 z7
    by_cases zp : z = par (g i)
    · have hne := bq_nt H z8 z7
      have l1 := h1 s hs
      have l2 := h2 s hs
      rw [← zp] at l1 l2
      rw [l1, l2, b1, b2]
      rcases bq_pk H v n with q | q
      · rw [← zp] at q
        have q2 : g i ≠ tw z := fun r => hne (q.trans r)
        rw [(E1 (tw z) s q2).1, (E1 (tw z) s q2).2, q, (E2 s).1, (E2 s).2, (E3 s).1, (E3 s).2]
        refine ⟨?_, ?_⟩
        · rw [Int32.add_zero, Int32.add_assoc, Int32.add_comm (bq_E g i co le (tw z) s), ← Int32.add_assoc]
        · rw [Int32.one_mul, Int32.mul_comm]
      · rw [← zp] at q
        have q2 : g i ≠ on z := fun r => hne (r.symm.trans q.symm)
        rw [(E1 (on z) s q2).1, (E1 (on z) s q2).2, q, (E2 s).1, (E2 s).2, (E3 s).1, (E3 s).2]
        refine ⟨?_, ?_⟩
        · rw [Int32.add_zero]
        · rw [Int32.mul_one]
    · have q1 : g i ≠ on z := fun r => zp (by rw [r]; exact po.symm)
      have q2 : g i ≠ tw z := fun r => zp (by rw [r]; exact pt.symm)
      rw [(h3 z s hs zp).1, (h3 z s hs zp).2, (E1 _ s q1).1, (E1 _ s q1).2, (E1 _ s q2).1, (E1 _ s q2).2]
      exact ⟨b1, b2⟩
theorem bq_XI_m (H : bq_T c top par on tw) (hG : bq_G c top d g m) (h : bq_XI c on tw ok co g m le wa) : bq_XS c on tw ok co le wa := by
  intro z hz s hs
  refine ⟨(h z hz s hs).1, fun z8 => ?_⟩
  have z7 := bq_v7 H hz z8
  obtain ⟨v1, n1, _⟩ := bq_on H z8 z7
  obtain ⟨v2, n2, _⟩ := bq_tw H z8 z7
  have t1 : bq_pr g m (on z) = true := (bq_pr_t m).mpr (hG.2.2.1 _ v1 n1)
  have t2 : bq_pr g m (tw z) = true := (bq_pr_t m).mpr (hG.2.2.1 _ v2 n2)
  have := (h z hz s hs).2 z8
  rw [bq_E, bq_E, bq_F, bq_F, if_pos t1, if_pos t2, if_pos t1, if_pos t2] at this
  exact this
theorem bq_XK_s (H : bq_T c top par on tw) (hD : bq_D c top par d) (hG : bq_G c top d g m) (hi : i < m) (h : bq_XK c on tw ok ra g i we)
    (h1 : ∀ s, s < 4 → we' (4 * par (g i) + s) = we (4 * par (g i) + s) * bq_s ra we (4 * s) (4 * g i) 4)
    (h3 : ∀ z s, s < 4 → z ≠ par (g i) → we' (4 * z + s) = we (4 * z + s)) : bq_XK c on tw ok ra g (i + 1) we' := by
  obtain ⟨v, n, vp, p8, kp, f1, f2⟩ := bq_g_facts H hD hG hi
  have E1 : ∀ w s, g i ≠ w → bq_J g (i + 1) ra we' w s = bq_J g i ra we w s := by
    intro w s hw
    rw [bq_J, bq_J, bq_pr_n hw]
    by_cases q : bq_pr g i w = true
    · have wp : w ≠ par (g i) := fun r => by
        rw [r, f2] at q
        exact Bool.noConfusion q
      rw [if_pos q, if_pos q]
      exact bq_s_cg 4 (fun t ht => h3 w t ht wp)
    · rw [if_neg q, if_neg q]
  have t1 : bq_pr g (i + 1) (g i) = true := (bq_pr_t (i + 1)).mpr ⟨i, by omega, rfl⟩
  have E2 : ∀ s, bq_J g (i + 1) ra we' (g i) s = bq_s ra we (4 * s) (4 * g i) 4 := by
    intro s
    rw [bq_J, if_pos t1]
    exact bq_s_cg 4 (fun t ht => h3 _ t ht kp)
  have E3 : ∀ s, bq_J g i ra we (g i) s = 1 := by
    intro s
    rw [bq_J, f1]
    rfl
  intro z hz s hs
  obtain ⟨a, b⟩ := h z hz s hs
  refine ⟨fun z8 => ?_, fun z8 => ?_⟩
  · have zp : z ≠ par (g i) := by omega
    rw [h3 z s hs zp]
    exact a z8
  · have b1 := b z8
    have z7 := bq_v7 H hz z8
    obtain ⟨_, _, po⟩ := bq_on H z8 z7
    obtain ⟨_, _, pt⟩ := bq_tw H z8 z7
    by_cases zp : z = par (g i)
    · have hne := bq_nt H z8 z7
      have l1 := h1 s hs
      rw [← zp] at l1
      rw [l1, b1]
      rcases bq_pk H v n with q | q
      · rw [← zp] at q
        have q2 : g i ≠ tw z := fun r => hne (q.trans r)
        rw [E1 (tw z) s q2, q, E2 s, E3 s]
        rw [Int64.mul_one, Int64.mul_assoc, Int64.mul_comm (bq_J g i ra we (tw z) s), ← Int64.mul_assoc]
      · rw [← zp] at q
        have q2 : g i ≠ on z := fun r => hne (r.symm.trans q.symm)
        rw [E1 (on z) s q2, q, E2 s, E3 s, Int64.mul_one]
    · have q1 : g i ≠ on z := fun r => zp (by rw [r]; exact po.symm)
      have q2 : g i ≠ tw z := fun r => zp (by rw [r]; exact pt.symm)
      rw [h3 z s hs zp, E1 _ s q1, E1 _ s q2]
      exact b1
theorem bq_XK_m (H : bq_T c top par on tw) (hG : bq_G c top d g m) (h : bq_XK c on tw ok ra g m we) : bq_XW c on tw ok ra we := by
  intro z hz s hs
  refine ⟨(h z hz s hs).1, fun z8 => ?_⟩
  have z7 := bq_v7 H hz z8
  obtain ⟨v1, n1, _⟩ := bq_on H z8 z7
  obtain ⟨v2, n2, _⟩ := bq_tw H z8 z7
  have t1 : bq_pr g m (on z) = true := (bq_pr_t m).mpr (hG.2.2.1 _ v1 n1)
  have t2 : bq_pr g m (tw z) = true := (bq_pr_t m).mpr (hG.2.2.1 _ v2 n2)
  have := (h z hz s hs).2 z8
  rw [bq_J, bq_J, if_pos t1, if_pos t2] at this
  exact this
end
/-- node x settled: the new arrays at x by the old ones at its children, all else as before -/
def bq_ST (on tw : Nat → Nat) (ok : Nat → Nat → Bool) (co ra lo mn : Nat → Int32) (su : Nat → Int64) (x : Nat) (lo' mn' : Nat → Int32) (su' : Nat → Int64) : Prop :=
  (∀ s, s < 4 →
    (x < 8 → lo' (4 * x + s) = (if ok x s = true then 0 else 1000) ∧ mn' (4 * x + s) = (if ok x s = true then 1 else 0) ∧ su' (4 * x + s) = (if ok x s = true then 1 else 0)) ∧
    (8 ≤ x → lo' (4 * x + s) = bq_cap (ok x s) (bq_l 1000 co lo (4 * s) (4 * on x) 4) (bq_l 1000 co lo (4 * s) (4 * tw x) 4) ∧
      mn' (4 * x + s) = bq_mny (ok x s) (bq_w 1000 co lo mn (4 * s) (4 * on x) 4) (bq_w 1000 co lo mn (4 * s) (4 * tw x) 4) ∧
      su' (4 * x + s) = (if ok x s = true then 1 else 0) * bq_s ra su (4 * s) (4 * on x) 4 * bq_s ra su (4 * s) (4 * tw x) 4)) ∧
  (∀ w s, s < 4 → w ≠ x → lo' (4 * w + s) = lo (4 * w + s) ∧ mn' (4 * w + s) = mn (4 * w + s) ∧ su' (4 * w + s) = su (4 * w + s))
section
variable {c top : Nat} {par on tw d : Nat → Nat} {ok : Nat → Nat → Bool} {co ra lo mn lo' mn' : Nat → Int32} {su su' : Nat → Int64}
theorem bq_YZ_cg {z : Nat} (h : ∀ w, (w = z ∨ (8 ≤ z ∧ (w = on z ∨ w = tw z))) → ∀ s, s < 4 → lo' (4 * w + s) = lo (4 * w + s) ∧ mn' (4 * w + s) = mn (4 * w + s) ∧ su' (4 * w + s) = su (4 * w + s))
    (hz : bq_YZ on tw ok co ra lo mn su z) : bq_YZ on tw ok co ra lo' mn' su' z := by
  intro s hs
  obtain ⟨a, b⟩ := hz s hs
  obtain ⟨e1, e2, e3⟩ := h z (Or.inl rfl) s hs
  rw [e1, e2, e3]
  refine ⟨a, fun z8 => ?_⟩
  have k1 := h (on z) (Or.inr ⟨z8, Or.inl rfl⟩)
  have k2 := h (tw z) (Or.inr ⟨z8, Or.inr rfl⟩)
  rw [bq_l_cg (lo := lo') (lo' := lo) (b := 4 * on z) (b' := 4 * on z) 4 (fun t ht => (k1 t ht).1), bq_l_cg (lo := lo') (lo' := lo) (b := 4 * tw z) (b' := 4 * tw z) 4 (fun t ht => (k2 t ht).1),
    bq_w_cg (lo := lo') (lo' := lo) (mn := mn') (mn' := mn) (b := 4 * on z) (b' := 4 * on z) 4 (fun t ht => (k1 t ht).1) (fun t ht => (k1 t ht).2.1),
    bq_w_cg (lo := lo') (lo' := lo) (mn := mn') (mn' := mn) (b := 4 * tw z) (b' := 4 * tw z) 4 (fun t ht => (k2 t ht).1) (fun t ht => (k2 t ht).2.1),
    bq_s_cg (su := su') (su' := su) (b := 4 * on z) (b' := 4 * on z) 4 (fun t ht => (k1 t ht).2.2), bq_s_cg (su := su') (su' := su) (b := 4 * tw z) (b' := 4 * tw z) 4 (fun t ht => (k2 t ht).2.2)]
  exact b z8
theorem bq_ST_x {x : Nat} (hn : 8 ≤ x → on x ≠ x ∧ tw x ≠ x) (h : bq_ST on tw ok co ra lo mn su x lo' mn' su') : bq_YZ on tw ok co ra lo' mn' su' x := by
  intro s hs
  obtain ⟨a, b⟩ := h.1 s hs
  refine ⟨a, fun z8 => ?_⟩
  have k1 := fun t ht => h.2 (on x) t ht (hn z8).1
  have k2 := fun t ht => h.2 (tw x) t ht (hn z8).2
  rw [bq_l_cg (lo := lo') (lo' := lo) (b := 4 * on x) (b' := 4 * on x) 4 (fun t ht => (k1 t ht).1), bq_l_cg (lo := lo') (lo' := lo) (b := 4 * tw x) (b' := 4 * tw x) 4 (fun t ht => (k2 t ht).1),
    bq_w_cg (lo := lo') (lo' := lo) (mn := mn') (mn' := mn) (b := 4 * on x) (b' := 4 * on x) 4 (fun t ht => (k1 t ht).1) (fun t ht => (k1 t ht).2.1),
    bq_w_cg (lo := lo') (lo' := lo) (mn := mn') (mn' := mn) (b := 4 * tw x) (b' := 4 * tw x) 4 (fun t ht => (k2 t ht).1) (fun t ht => (k2 t ht).2.1),
    bq_s_cg (su := su') (su' := su) (b := 4 * on x) (b' := 4 * on x) 4 (fun t ht => (k1 t ht).2.2), bq_s_cg (su := su') (su' := su) (b := 4 * tw x) (b' := 4 * tw x) 4 (fun t ht => (k2 t ht).2.2)]
  exact b z8
/-- settled: all at depth d0 or deeper, and at depth d0 - 1 those below j -/
def bq_YD (c : Nat) (d : Nat → Nat) (on tw : Nat → Nat) (ok : Nat → Nat → Bool) (co ra : Nat → Int32) (d0 j : Nat) (lo mn : Nat → Int32) (su : Nat → Int64) : Prop :=
  ∀ z, bq_V c z → (d0 ≤ d z ∨ (d z + 1 = d0 ∧ z < j)) → bq_YZ on tw ok co ra lo mn su z
theorem bq_kne (H : bq_T c top par on tw) {x : Nat} (hx : bq_V c x) (x8 : 8 ≤ x) : on x ≠ x ∧ tw x ≠ x := by
  have x7 := bq_v7 H hx x8
  obtain ⟨d, hD⟩ := bq_ex H
  obtain ⟨v1, n1, p1⟩ := bq_on H x8 x7
  obtain ⟨v2, n2, p2⟩ := bq_tw H x8 x7
  have d1 := hD.2.1 _ v1 n1
  have d2 := hD.2.1 _ v2 n2
  rw [p1] at d1
  rw [p2] at d2
  refine ⟨fun q => ?_, fun q => ?_⟩
  · rw [q] at d1
    omega
  · rw [q] at d2
    omega
theorem bq_YD_s (H : bq_T c top par on tw) (hD : bq_D c top par d) {d0 j : Nat} (hj : bq_V c j) (h : bq_YD c d on tw ok co ra d0 j lo mn su)
    (hS : bq_ST on tw ok co ra lo mn su j lo' mn' su') : bq_YD c d on tw ok co ra d0 (j + 1) lo' mn' su' := by
  intro z hz hg
  by_cases e : z = j
  · rw [e]
    exact bq_ST_x (fun x8 => bq_kne H hj x8) hS
  · have hz' := h z hz (by omega)
    refine bq_YZ_cg (fun w hw s hs => ?_) hz'
    by_cases wj : w = j
    · have w8 : 8 ≤ z ∧ (w = on z ∨ w = tw z) := by
        rcases hw with q | q
        · exact absurd (q.symm.trans wj) e
        · exact q
      have z7 := bq_v7 H hz w8.1
      have dw : d w = d z + 1 := by
        rcases w8.2 with q | q
        · obtain ⟨v1, n1, p1⟩ := bq_on H w8.1 z7
          have := hD.2.1 _ v1 n1
          rw [p1, ← q] at this
          exact this
        · obtain ⟨v1, n1, p1⟩ := bq_tw H w8.1 z7
          have := hD.2.1 _ v1 n1
          rw [p1, ← q] at this
          exact this
      rw [wj] at dw
      have old := h j hj (Or.inl (by omega)) s hs
      have new := hS.1 s hs
      rw [wj]
      by_cases j8 : j < 8
      · rw [(new.1 j8).1, (new.1 j8).2.1, (new.1 j8).2.2, (old.1 j8).1, (old.1 j8).2.1, (old.1 j8).2.2]
        exact ⟨rfl, rfl, rfl⟩
      · have j8' : 8 ≤ j := by omega
        rw [(new.2 j8').1, (new.2 j8').2.1, (new.2 j8').2.2, (old.2 j8').1, (old.2 j8').2.1, (old.2 j8').2.2]
        exact ⟨rfl, rfl, rfl⟩
    · exact hS.2 w s hs wj
theorem bq_YD_n {d0 j : Nat} (hj : ¬ bq_V c j) (h : bq_YD c d on tw ok co ra d0 j lo mn su) : bq_YD c d on tw ok co ra d0 (j + 1) lo mn su := by
  intro z hz hg
  have e : z ≠ j := fun q => hj (by rw [← q]; exact hz)
  exact h z hz (by omega)
theorem bq_YD_r (H : bq_T c top par on tw) {d0 : Nat} (h : bq_YD c d on tw ok co ra (d0 + 1) 14 lo mn su) : bq_YD c d on tw ok co ra d0 0 lo mn su := by
  intro z hz hg
  have := bq_lt14 H hz
  exact h z hz (by omega)
theorem bq_YD_7 (hD : bq_D c top par d) : bq_YD c d on tw ok co ra 7 0 lo mn su := by
  intro z hz hg
  have := hD.2.2 z hz
  omega
theorem bq_YD_0 (h : bq_YD c d on tw ok co ra 0 0 lo mn su) : bq_YS c on tw ok co ra lo mn su := fun z hz => h z hz (Or.inl (Nat.zero_le _))
end
end
section
/-! pictures of the tree in the arrays, and what the three changes do to them -/
def bq_up (f : Nat → Nat) (k v : Nat) : Nat → Nat := fun j => if j = k then v else f j
theorem bq_us {f : Nat → Nat} {k v : Nat} : bq_up f k v k = v := if_pos rfl
theorem bq_un {f : Nat → Nat} {k v j : Nat} (h : j ≠ k) : bq_up f k v j = f j := if_neg h
def bq_en (top : Nat) (par : Nat → Nat) (z : Nat) : Int32 := if z = top then -1 else nI (par z)
theorem bq_en_t {top : Nat} {par : Nat → Nat} : bq_en top par top = -1 := if_pos rfl
theorem bq_en_n {top : Nat} {par : Nat → Nat} {z : Nat} (h : z ≠ top) : bq_en top par z = nI (par z) := if_neg h
def bq_PA (c top : Nat) (par : Nat → Nat) (pa : Nat → Int32) : Prop := ∀ z, bq_V c z → pa z = bq_en top par z
def bq_PC (c : Nat) (on tw : Nat → Nat) (o t : Nat → Int32) : Prop := ∀ p, 8 ≤ p → p < 7 + c → o p = nI (on p) ∧ t p = nI (tw p)
def bq_dg (code s : Nat) : Nat := code / 2 ^ (6 - 2 * s) % 4
def bq_CX (c : Nat) (code : Nat → Nat) (cd : Nat → Int32) : Prop := ∀ l, l < c → code l < 256 ∧ cd l = nI (code l)
def bq_CY (c : Nat) (code : Nat → Nat) (ow : Nat → Int32) : Prop := ∀ l, l < c → ∀ s, s < 4 → ow (4 * l + s) = nI (bq_dg (code l) s)
/-- at g alone: x made y -/
def bq_ra (g x y : Nat) (f : Nat → Nat) : Nat → Nat := fun q => if q = g then (if f q = x then y else f q) else f q
theorem bq_ra_g {g x y : Nat} {f : Nat → Nat} (h : f g = x) : bq_ra g x y f g = y := by
  rw [bq_ra, if_pos rfl, if_pos h]
theorem bq_ra_n {g x y q : Nat} {f : Nat → Nat} (h : f q ≠ x) : bq_ra g x y f q = f q := by
  rw [bq_ra]
  by_cases e : q = g
  · rw [if_pos e, if_neg h]
  · rw [if_neg e]
theorem bq_ra_o {g x y q : Nat} {f : Nat → Nat} (h : q ≠ g) : bq_ra g x y f q = f q := if_neg h
theorem bq_PC_1 {c : Nat} {on tw : Nat → Nat} {o t : Nat → Int32} {g x y : Nat} (h : bq_PC c on tw o t) (hx : on g = x) (hne : tw g ≠ x) : bq_PC c (bq_ra g x y on) (bq_ra g x y tw) (upd o g (nI y)) t := by
  intro p h8 h7
  by_cases e : p = g
  · subst e
    rw [pk_us, bq_ra_g hx, bq_ra_n hne]
    exact ⟨rfl, (h p h8 h7).2⟩
  · rw [pk_un e, bq_ra_o e, bq_ra_o e]
    exact h p h8 h7
theorem bq_PC_2 {c : Nat} {on tw : Nat → Nat} {o t : Nat → Int32} {g x y : Nat} (h : bq_PC c on tw o t) (hx : tw g = x) (hne : on g ≠ x) : bq_PC c (bq_ra g x y on) (bq_ra g x y tw) o (upd t g (nI y)) := by
  intro p h8 h7
  by_cases e : p = g
  · subst e
    rw [pk_us, bq_ra_g hx, bq_ra_n hne]
    exact ⟨(h p h8 h7).1, rfl⟩
  · rw [pk_un e, bq_ra_o e, bq_ra_o e]
    exact h p h8 h7
/-- join: p gets the children x and y -/
theorem bq_PC_j {c : Nat} {on tw : Nat → Nat} {o t : Nat → Int32} {p x y : Nat} (h : ∀ q, 8 ≤ q → q < 7 + c → q ≠ p → o q = nI (on q) ∧ t q = nI (tw q)) : bq_PC c (bq_up on p x) (bq_up tw p y) (upd o p (nI x)) (upd t p (nI y)) := by
  intro q h8 h7
  by_cases e : q = p
  · subst e
    rw [pk_us, pk_us, bq_us, bq_us]
    exact ⟨rfl, rfl⟩
  · rw [pk_un e, pk_un e, bq_un e, bq_un e]
    exact h q h8 h7 e
section
variable {c top : Nat} {par on tw : Nat → Nat} {pa : Nat → Int32}
/-- attach: the parents -/
def bq_aP (c x : Nat) (par : Nat → Nat) : Nat → Nat := bq_up (bq_up (bq_up par (7 + c) (par x)) x (7 + c)) c (7 + c)
def bq_aT (c x top : Nat) : Nat := if x = top then 7 + c else top
def bq_aO (c x top : Nat) (par on : Nat → Nat) : Nat → Nat := bq_up (if x = top then on else bq_ra (par x) x (7 + c) on) (7 + c) x
def bq_aW (c x top : Nat) (par tw : Nat → Nat) : Nat → Nat := bq_up (if x = top then tw else bq_ra (par x) x (7 + c) tw) (7 + c) c
theorem bq_aPA (H : bq_T c top par on tw) (hc : c < 7) {x : Nat} (hx : bq_V c x) (h : bq_PA c top par pa) :
    bq_PA (c + 1) (bq_aT c x top) (bq_aP c x par) (upd (upd (upd pa (7 + c) (pa x)) x (nI (7 + c))) c (nI (7 + c))) := by
  have hx' : x < c ∨ (8 ≤ x ∧ x < 7 + c) := hx
  have vt' : top < c ∨ (8 ≤ top ∧ top < 7 + c) := bq_vt H
  have ht : bq_aT c x top = 7 + c ∨ bq_aT c x top = top := by
    rw [bq_aT]
    by_cases e : x = top
    · rw [if_pos e]
      exact Or.inl rfl
    · rw [if_neg e]
      exact Or.inr rfl
  intro z hz
  by_cases e1 : z = c
  · rw [e1, pk_us, bq_en_n (by omega), bq_aP, bq_us]
  by_cases e2 : z = x
  · rw [e2, pk_un (by omega), pk_us, bq_en_n, bq_aP, bq_un (by omega), bq_us]
    rw [bq_aT]
    by_cases e : x = top
    · rw [if_pos e]
      omega
    · rw [if_neg e]
      exact e
  by_cases e3 : z = 7 + c
  · rw [e3, pk_un (by omega), pk_un (by omega), pk_us, h x hx]
    by_cases e : x = top
    · rw [bq_aT, if_pos e, bq_en_t, e, bq_en_t]
    · rw [bq_aT, if_neg e, bq_en_n e, bq_en_n (by omega), bq_aP, bq_un (by omega), bq_un (by omega), bq_us]
  · have hzv : bq_V c z := by
      rcases hz with h | h
      · exact Or.inl (by omega)
      · exact Or.inr ⟨by omega, by omega⟩
    rw [pk_un e1, pk_un e2, pk_un e3, h z hzv]
    by_cases e : x = top
    · rw [bq_aT, if_pos e, bq_en_n (fun q => e2 (q.trans e.symm)), bq_en_n e3, bq_aP, bq_un e1, bq_un e2, bq_un e3]
    · rw [bq_aT, if_neg e]
      by_cases q : z = top
      · rw [q, bq_en_t, bq_en_t]
      · rw [bq_en_n q, bq_en_n q, bq_aP, bq_un e1, bq_un e2, bq_un e3]
theorem bq_aH (H : bq_T c top par on tw) (hc : c < 7) {x : Nat} (hx : bq_V c x) :
    bq_T (c + 1) (bq_aT c x top) (bq_aP c x par) (bq_aO c x top par on) (bq_aW c x top par tw) := by
  have hx' : x < c ∨ (8 ≤ x ∧ x < 7 + c) := hx
  have vt' : top < c ∨ (8 ≤ top ∧ top < 7 + c) := bq_vt H
  refine bq_att H hc hx ?_ ?_ ?_ ?_ ?_ ?_ ?_ ?_ ?_ ?_ ?_ ?_
  · rw [bq_aP, bq_us]
  · rw [bq_aP, bq_un (by omega), bq_us]
  · intro _
    rw [bq_aP, bq_un (by omega), bq_un (by omega), bq_us]
  · intro z hz e _
    have hz' : z < c ∨ (8 ≤ z ∧ z < 7 + c) := hz
    rw [bq_aP, bq_un (by omega), bq_un e, bq_un (by omega)]
  · intro e
    rw [bq_aT, if_pos e]
  · intro e
    rw [bq_aT, if_neg e]
  · rw [bq_aO, bq_us]
  · rw [bq_aW, bq_us]
  · intro p h8 h7 e
    obtain ⟨_, n, q⟩ := bq_on H h8 h7
    rw [e] at n q
    rw [bq_aO, bq_un (by omega), if_neg n, q, bq_ra_g e]
  · intro p h8 h7 e
    rw [bq_aO, bq_un (by omega)]
    by_cases n : x = top
    · rw [if_pos n]
    · rw [if_neg n, bq_ra_n e]
  · intro p h8 h7 e
    obtain ⟨_, n, q⟩ := bq_tw H h8 h7
    rw [e] at n q
    rw [bq_aW, bq_un (by omega), if_neg n, q, bq_ra_g e]
  · intro p h8 h7 e
    rw [bq_aW, bq_un (by omega)]
    by_cases n : x = top
    · rw [if_pos n]
    · rw [if_neg n, bq_ra_n e]
/-- swap: the parents -/
def bq_wP (x y : Nat) (par : Nat → Nat) : Nat → Nat := bq_up (bq_up par x (par y)) y (par x)
def bq_wO (x y : Nat) (par on : Nat → Nat) : Nat → Nat := if par x = par y then on else bq_ra (par y) y x (bq_ra (par x) x y on)
theorem bq_wPA (H : bq_T c top par on tw) {x y : Nat} (hx : bq_V c x) (hy : bq_V c y) (xt : x ≠ top) (yt : y ≠ top) (h : bq_PA c top par pa) :
    bq_PA c top (bq_wP x y par) (upd (upd pa x (pa y)) y (pa x)) := by
  intro z hz
  by_cases e1 : z = y
  · rw [e1, pk_us, h x hx, bq_en_n xt, bq_en_n yt, bq_wP, bq_us]
  by_cases e2 : z = x
  · rw [e2] at e1 ⊢
    rw [pk_un e1, pk_us, h y hy, bq_en_n yt, bq_en_n xt, bq_wP, bq_un e1, bq_us]
  · rw [pk_un e1, pk_un e2, h z hz]
    by_cases q : z = top
    · rw [q, bq_en_t, bq_en_t]
    · rw [bq_en_n q, bq_en_n q, bq_wP, bq_un e1, bq_un e2]
theorem bq_wH (H : bq_T c top par on tw) {x y : Nat} (hx : bq_V c x) (hy : bq_V c y) (h1 : ¬ bq_A top par x y) (h2 : ¬ bq_A top par y x) :
    bq_T c top (bq_wP x y par) (bq_wO x y par on) (bq_wO x y par tw) := by
  have xy : x ≠ y := fun q => h1 (by rw [q]; exact bq_A_rf y)
  by_cases e : par x = par y
  · rw [bq_wO, bq_wO, if_pos e, if_pos e]
    refine bq_same H (fun z hz _ => ?_) (fun p _ _ => Or.inl ⟨rfl, rfl⟩)
    by_cases e1 : z = y
    · rw [e1, bq_wP, bq_us]
      exact e
    by_cases e2 : z = x
    · rw [e2] at e1 ⊢
      rw [bq_wP, bq_un e1, bq_us]
      exact e.symm
    · rw [bq_wP, bq_un e1, bq_un e2]
  · rw [bq_wO, bq_wO, if_neg e, if_neg e]
    have hO : ∀ f : Nat → Nat, (∀ p, 8 ≤ p → p < 7 + c → par (f p) = p) → ∀ p, 8 ≤ p → p < 7 + c →
        (f p = x → bq_ra (par y) y x (bq_ra (par x) x y f) p = y) ∧ (f p = y → bq_ra (par y) y x (bq_ra (par x) x y f) p = x) ∧ (f p ≠ x → f p ≠ y → bq_ra (par y) y x (bq_ra (par x) x y f) p = f p) := by
      intro f hf p h8 h7
      refine ⟨fun q => ?_, fun q => ?_, fun q r => ?_⟩
      · have k := hf p h8 h7
        rw [q] at k
        rw [bq_ra_o (fun r => e (k.trans r)), k, bq_ra_g q]
      · have k := hf p h8 h7
        rw [q] at k
        rw [k]
        refine bq_ra_g ?_
        rw [bq_ra_n (by rw [q]; exact fun r => xy r.symm)]
        exact q
      · rw [bq_ra_n (by rw [bq_ra_n q]; exact r), bq_ra_n q]
    have o := hO on (fun p h8 h7 => (bq_on H h8 h7).2.2)
    have t := hO tw (fun p h8 h7 => (bq_tw H h8 h7).2.2)
    refine bq_swp H hx hy h1 h2 ?_ ?_ ?_ (fun p h8 h7 => (o p h8 h7).1) (fun p h8 h7 => (o p h8 h7).2.1) (fun p h8 h7 => (o p h8 h7).2.2) (fun p h8 h7 => (t p h8 h7).1) (fun p h8 h7 => (t p h8 h7).2.1) (fun p h8 h7 => (t p h8 h7).2.2)
    · rw [bq_wP, bq_un xy, bq_us]
    · rw [bq_wP, bq_us]
    · intro z _ a b _
      rw [bq_wP, bq_un b, bq_un a]
end
end
section
/-! move: x with its parent p goes beside y; s is x's sibling -/
def bq_mT1 (p s top : Nat) : Nat := if p = top then s else top
def bq_mO1 (p s top : Nat) (par on : Nat → Nat) : Nat → Nat := if p = top then on else bq_ra (par p) p s on
def bq_mT2 (y p top1 : Nat) : Nat := if y = top1 then p else top1
def bq_mO2 (y p top1 : Nat) (par1 on1 : Nat → Nat) : Nat → Nat := if y = top1 then on1 else bq_ra (par1 y) y p on1
def bq_mP3 (y p : Nat) (par1 : Nat → Nat) : Nat → Nat := bq_up (bq_up par1 p (par1 y)) y p
theorem bq_PA_u {c top : Nat} {par : Nat → Nat} {pa : Nat → Int32} {x : Nat} {v : Int32} (h : bq_PA c top par pa) (e : v = bq_en top par x) : bq_PA c top par (upd pa x v) := by
  intro z hz
  by_cases q : z = x
  · rw [q, pk_us]
    exact e
  · rw [pk_un q]
    exact h z hz
section
variable {c top : Nat} {par on tw : Nat → Nat} {pa : Nat → Int32}
/-- x, y, s, p as move meets them -/
def bq_M (c top : Nat) (par on tw : Nat → Nat) (x y s p : Nat) : Prop :=
  bq_V c x ∧ bq_V c y ∧ x ≠ top ∧ par x = p ∧ ¬ bq_A top par x y ∧ y ≠ p ∧ ((on p = x ∧ tw p = s) ∨ (tw p = x ∧ on p = s))
theorem bq_M_f (H : bq_T c top par on tw) {x y s p : Nat} (h : bq_M c top par on tw x y s p) :
    8 ≤ p ∧ p < 7 + c ∧ bq_V c s ∧ s ≠ top ∧ par s = p ∧ s ≠ x ∧ s ≠ p ∧ x ≠ p ∧ (∀ k, bq_V c k → k ≠ top → par k = p → k = x ∨ k = s) ∧ (p ≠ top → par p ≠ p) ∧ y ≠ x := by
  obtain ⟨hx, hy, xt, ep, hA, yp, hs⟩ := h
  have p8 : 8 ≤ p := by
    have := bq_p8 H hx xt
    omega
  have p7 : p < 7 + c := by
    have := bq_p7 H hx xt
    omega
  obtain ⟨v1, n1, q1⟩ := bq_on H p8 p7
  obtain ⟨v2, n2, q2⟩ := bq_tw H p8 p7
  have hne := bq_nt H p8 p7
  obtain ⟨k1, k2⟩ := bq_kne H (Or.inr ⟨p8, p7⟩) p8
  have hk : ∀ k, bq_V c k → k ≠ top → par k = p → k = on p ∨ k = tw p := by
    intro k vk nk ek
    have := bq_pk H vk nk
    rw [ek] at this
    rcases this with r | r
    · exact Or.inl r.symm
    · exact Or.inr r.symm
  have hp : p ≠ top → par p ≠ p := fun n q => by
    obtain ⟨d, hD⟩ := bq_ex H
    have := hD.2.1 p (Or.inr ⟨p8, p7⟩) n
    rw [q] at this
    omega
  have yx : y ≠ x := fun q => hA (by rw [q]; exact bq_A_rf x)
  rcases hs with ⟨e1, e2⟩ | ⟨e1, e2⟩
  · rw [← e1, ← e2]
    exact ⟨p8, p7, v2, n2, q2, fun q => hne q.symm, k2, k1, hk, hp, by rw [e1]; exact yx⟩
  · rw [← e1, ← e2]
    exact ⟨p8, p7, v1, n1, q1, hne, k1, k2, fun k a b e => (hk k a b e).symm, hp, by rw [e1]; exact yx⟩
theorem bq_mPA (H : bq_T c top par on tw) {x y s p : Nat} (h : bq_M c top par on tw x y s p) (hP : bq_PA c top par pa) :
    bq_PA c (bq_mT2 y p (bq_mT1 p s top)) (bq_mP3 y p (bq_up par s (par p))) (upd (upd (upd pa s (pa p)) p ((upd pa s (pa p)) y)) y (nI p)) := by
  obtain ⟨p8, p7, vs, st, es, sx, sp, xp, hk, hpp, yx⟩ := bq_M_f H h
  obtain ⟨hx, hy, xt, ep, hA, yp, hs⟩ := h
  have vp : bq_V c p := Or.inr ⟨p8, p7⟩
  by_cases ys : y = s
  · subst ys
    have eT : bq_mT2 y p (bq_mT1 p y top) = top := by
      rw [bq_mT2, bq_mT1]
      by_cases e : p = top
      · rw [if_pos e, if_pos rfl]
        exact e
      · rw [if_neg e, if_neg st]
    rw [eT]
    intro z hz
    by_cases e1 : z = y
    · rw [e1, pk_us, bq_en_n st, bq_mP3, bq_us]
    by_cases e2 : z = p
    · rw [e2, pk_un (fun q => yp q.symm), pk_us, pk_us, hP p vp]
      by_cases e : p = top
      · rw [e, bq_en_t, bq_en_t]
      · rw [bq_en_n e, bq_en_n e, bq_mP3, bq_un (fun q => yp q.symm), bq_us, bq_us]
    · rw [pk_un e1, pk_un e2, pk_un e1, hP z hz]
      by_cases e : z = top
      · rw [e, bq_en_t, bq_en_t]
      · rw [bq_en_n e, bq_en_n e, bq_mP3, bq_un e1, bq_un e2, bq_un e1]
  · rw [pk_un ys]
    by_cases pt : p = top
    · have yt : y ≠ top := fun q => yp (q.trans pt.symm)
      have eT : bq_mT2 y p (bq_mT1 p s top) = s := by
        rw [bq_mT2, bq_mT1, if_pos pt, if_neg ys]
      rw [eT]
      intro z hz
      by_cases e1 : z = y
      · rw [e1, pk_us, bq_en_n ys, bq_mP3, bq_us]
      by_cases e2 : z = p
      · rw [e2, pk_un (fun q => yp q.symm), pk_us, hP y hy, bq_en_n yt, bq_en_n (fun q => sp q.symm), bq_mP3, bq_un (fun q => yp q.symm), bq_us, bq_un ys]
      by_cases e3 : z = s
      · rw [e3, pk_un (fun q => ys q.symm), pk_un sp, pk_us, hP p vp, pt, bq_en_t, bq_en_t]
      · rw [pk_un e1, pk_un e2, pk_un e3, hP z hz, bq_en_n (fun q => e2 (q.trans pt.symm)), bq_en_n e3, bq_mP3, bq_un e1, bq_un e2, bq_un e3]
    · by_cases yt : y = top
      · have eT : bq_mT2 y p (bq_mT1 p s top) = p := by
          rw [bq_mT2, bq_mT1, if_neg pt, if_pos yt]
        rw [eT]
        intro z hz
        by_cases e1 : z = y
        · rw [e1, pk_us, bq_en_n yp, bq_mP3, bq_us]
        by_cases e2 : z = p
        · rw [e2, pk_un (fun q => yp q.symm), pk_us, hP y hy, yt, bq_en_t, bq_en_t]
        by_cases e3 : z = s
        · rw [e3, pk_un (fun q => ys q.symm), pk_un sp, pk_us, hP p vp, bq_en_n pt, bq_en_n sp, bq_mP3, bq_un (fun q => ys q.symm), bq_un sp, bq_us]
        · rw [pk_un e1, pk_un e2, pk_un e3, hP z hz, bq_en_n (fun q => e1 (q.trans yt.symm)), bq_en_n e2, bq_mP3, bq_un e1, bq_un e2, bq_un e3]
      · have eT : bq_mT2 y p (bq_mT1 p s top) = top := by
          rw [bq_mT2, bq_mT1, if_neg pt, if_neg yt]
        rw [eT]
        intro z hz
        by_cases e1 : z = y
        · rw [e1, pk_us, bq_en_n yt, bq_mP3, bq_us]
        by_cases e2 : z = p
        · rw [e2, pk_un (fun q => yp q.symm), pk_us, hP y hy, bq_en_n yt, bq_en_n pt, bq_mP3, bq_un (fun q => yp q.symm), bq_us, bq_un ys]
        by_cases e3 : z = s
        · rw [e3, pk_un (fun q => ys q.symm), pk_un sp, pk_us, hP p vp, bq_en_n pt, bq_en_n st, bq_mP3, bq_un (fun q => ys q.symm), bq_un sp, bq_us]
        · rw [pk_un e1, pk_un e2, pk_un e3, hP z hz]
          by_cases e : z = top
          · rw [e, bq_en_t, bq_en_t]
          · rw [bq_en_n e, bq_en_n e, bq_mP3, bq_un e1, bq_un e2, bq_un e3]
theorem bq_mH (H : bq_T c top par on tw) {x y s p : Nat} (h : bq_M c top par on tw x y s p) :
    bq_T c (bq_mT2 y p (bq_mT1 p s top)) (bq_mP3 y p (bq_up par s (par p)))
      (bq_up (bq_mO2 y p (bq_mT1 p s top) (bq_up par s (par p)) (bq_mO1 p s top par on)) p y)
      (bq_up (bq_mO2 y p (bq_mT1 p s top) (bq_up par s (par p)) (bq_mO1 p s top par tw)) p x) := by
  obtain ⟨p8, p7, vs, st, es, sx, sp, xp, hk, hpp, yx⟩ := bq_M_f H h
  obtain ⟨hx, hy, xt, ep, hA, yp, hs⟩ := h
  have vp : bq_V c p := Or.inr ⟨p8, p7⟩
  by_cases ys : y = s
  · subst ys
    have eT : bq_mT2 y p (bq_mT1 p y top) = top := by
      rw [bq_mT2, bq_mT1]
      by_cases e : p = top
      · rw [if_pos e, if_pos rfl]
        exact e
      · rw [if_neg e, if_neg st]
    rw [eT]
    refine bq_same H ?_ ?_
    · intro z hz zt
      rw [bq_mP3]
      by_cases e1 : z = y
      · rw [e1, bq_us]
        exact es.symm
      by_cases e2 : z = p
      · rw [e2, bq_un (fun q => yp q.symm), bq_us, bq_us]
      · rw [bq_un e1, bq_un e2, bq_un e1]
    · intro q h8 h7
      by_cases e : q = p
      · rw [e, bq_us, bq_us]
        rcases hs with ⟨a, b⟩ | ⟨a, b⟩
        · exact Or.inr ⟨b.symm, a.symm⟩
        · exact Or.inl ⟨b.symm, a.symm⟩
      · rw [bq_un e, bq_un e]
        refine Or.inl ?_
        have F : ∀ f : Nat → Nat, f q ≠ y → bq_mO2 y p (bq_mT1 p y top) (bq_up par y (par p)) (bq_mO1 p y top par f) q = f q := by
          intro f hf
          by_cases pt : p = top
          · rw [bq_mO2, bq_mT1, if_pos pt, if_pos rfl, bq_mO1, if_pos pt]
          · rw [bq_mO2, bq_mT1, if_neg pt, if_neg st, bq_mO1, if_neg pt, bq_us]
            by_cases g : q = par p
            · by_cases k : f q = p
              · have k2 : bq_ra (par p) p y f q = y := by
                  rw [g] at k ⊢
                  exact bq_ra_g k
                rw [k]
                rw [g] at k2 ⊢
                exact bq_ra_g k2
              · rw [bq_ra_n (by rw [bq_ra_n k]; exact hf), bq_ra_n k]
            · rw [bq_ra_o g, bq_ra_o g]
        refine ⟨F on (fun k => e ?_), F tw (fun k => e ?_)⟩
        · have := (bq_on H h8 h7).2.2
          rw [k, es] at this
          exact this.symm
        · have := (bq_tw H h8 h7).2.2
          rw [k, es] at this
          exact this.symm
  · have F : ∀ f : Nat → Nat, (∀ q, 8 ≤ q → q < 7 + c → f q ≠ top ∧ par (f q) = q) → ∀ z q, 8 ≤ q → q < 7 + c → q ≠ p →
        (f q = p → bq_up (bq_mO2 y p (bq_mT1 p s top) (bq_up par s (par p)) (bq_mO1 p s top par f)) p z q = s) ∧
        (f q = y → bq_up (bq_mO2 y p (bq_mT1 p s top) (bq_up par s (par p)) (bq_mO1 p s top par f)) p z q = p) ∧
        (f q ≠ p → f q ≠ y → bq_up (bq_mO2 y p (bq_mT1 p s top) (bq_up par s (par p)) (bq_mO1 p s top par f)) p z q = f q) := by
      intro f hf z q h8 h7 e
      obtain ⟨n, k⟩ := hf q h8 h7
      rw [bq_un e, bq_mO2, bq_un ys]
      have up1 : f q = p → bq_mO1 p s top par f q = s := fun r => by
        have pt : p ≠ top := by
          rw [← r]
          exact n
        rw [r] at k
        rw [bq_mO1, if_neg pt, k, bq_ra_g r]
      have up2 : f q ≠ p → bq_mO1 p s top par f q = f q := fun r => by
        rw [bq_mO1]
        by_cases pt : p = top
        · rw [if_pos pt]
        · rw [if_neg pt, bq_ra_n r]
      have sy : s ≠ y := fun r => ys r.symm
      refine ⟨fun r => ?_, fun r => ?_, fun r r2 => ?_⟩
      · by_cases b : y = bq_mT1 p s top
        · rw [if_pos b]
          exact up1 r
        · rw [if_neg b, bq_ra_n (by rw [up1 r]; exact sy)]
          exact up1 r
      · have yt : y ≠ top := by
          rw [← r]
          exact n
        have b : y ≠ bq_mT1 p s top := by
          rw [bq_mT1]
          by_cases pt : p = top
          · rw [if_pos pt]
            exact ys
          · rw [if_neg pt]
            exact yt
        have k2 : par y = q := by
          rw [r] at k
          exact k
        rw [if_neg b, k2]
        refine bq_ra_g ?_
        rw [up2 (by rw [r]; exact yp)]
        exact r
      · by_cases b : y = bq_mT1 p s top
        · rw [if_pos b]
          exact up2 r
        · rw [if_neg b, bq_ra_n (by rw [up2 r]; exact r2)]
          exact up2 r
    have o := F on (fun q h8 h7 => (bq_on H h8 h7).2)
    have t := F tw (fun q h8 h7 => (bq_tw H h8 h7).2)
    refine bq_mov H hx hy vs xt st ep es sx hk hA yp ys ?_ ?_ ?_ ?_ ?_ ?_ ?_ ?_ bq_us bq_us
      (fun q a b e => (o y q a b e).1) (fun q a b e => (o y q a b e).2.1) (fun q a b e => (o y q a b e).2.2)
      (fun q a b e => (t x q a b e).1) (fun q a b e => (t x q a b e).2.1) (fun q a b e => (t x q a b e).2.2)
    · rw [bq_mP3, bq_us]
    · rw [bq_mP3, bq_un (fun q => yx q.symm), bq_un xp, bq_un (fun q => sx q.symm)]
      exact ep
    · intro _
      rw [bq_mP3, bq_un (fun q => ys q.symm), bq_un sp, bq_us]
    · intro _
      rw [bq_mP3, bq_un (fun q => yp q.symm), bq_us, bq_un ys]
    · intro z _ _ b e f _
      rw [bq_mP3, bq_un b, bq_un f, bq_un e]
    · intro pt
      rw [bq_mT2, bq_mT1, if_pos pt, if_neg ys]
    · intro pt yt
      rw [bq_mT2, bq_mT1, if_neg pt, if_pos yt]
    · intro pt yt
      rw [bq_mT2, bq_mT1, if_neg pt, if_neg yt]
end
end
section
/-! answers: digits, least, ways, states, weight, best place -/
theorem bq_dg_lt (code s : Nat) : bq_dg code s < 4 := Nat.mod_lt _ (by decide)
theorem bq_dg_sum {code : Nat} (h : code < 256) : bq_dg code 0 * 64 + bq_dg code 1 * 16 + bq_dg code 2 * 4 + bq_dg code 3 = code := by
  show code / 64 % 4 * 64 + code / 16 % 4 * 16 + code / 4 % 4 * 4 + code / 1 % 4 = code
  omega
def bq_ok (c site : Nat) (code : Nat → Nat) (pin ps : Int32) (z s : Nat) : Bool := (decide (nI z ≠ pin) || decide (nI s = ps)) && (decide (c ≤ z) || decide (bq_dg (code z) site = s))
theorem bq_nm1 {z : Nat} (h : z < 2 ^ 31) : nI z ≠ -1 := by
  intro q
  have := nI_toInt h
  rw [q, show (-1 : Int32).toInt = -1 by decide] at this
  omega
theorem bq_ok_u {c site : Nat} {code : Nat → Nat} {ps : Int32} {z s : Nat} (hz : z < 2 ^ 31) : bq_ok c site code (-1) ps z s = (decide (c ≤ z) || decide (bq_dg (code z) site = s)) := by
  rw [bq_ok, decide_eq_true (bq_nm1 hz), Bool.true_or, Bool.true_and]
theorem bq_m4_fin {lo : Nat → Int32} {b : Nat} : ∀ t, (∀ i, i < t → (∃ k, k ≤ 108 ∧ lo (b + i) = nI k) ∨ lo (b + i) = nI 1000) →
    ((∃ k, k ≤ 108 ∧ bq_m4 1000 lo b t = nI k) ∨ (bq_m4 1000 lo b t = nI 1000 ∧ ∀ i, i < t → lo (b + i) = nI 1000)) := by
  intro t
  induction t with
  | zero => intro _; exact Or.inr ⟨rfl, fun i hi => absurd hi (by omega)⟩
  | succ t ih =>
    intro h
    have ih' := ih (fun i hi => h i (by omega))
    simp only [bq_m4]
    rcases h t (by omega) with ⟨k, hk, e⟩ | e
    · rw [e]
      rcases ih' with ⟨q, hq, f⟩ | ⟨f, _⟩
      · rw [f]
        by_cases c : k < q
        · exact Or.inl ⟨k, hk, if_pos (nI_lt c (by omega))⟩
        · exact Or.inl ⟨q, hq, if_neg (nI_nlt (by omega) (by omega))⟩
      · rw [f]
        exact Or.inl ⟨k, hk, if_pos (nI_lt (by omega) (by omega))⟩
    · rw [e]
      rcases ih' with ⟨q, hq, f⟩ | ⟨f, g⟩
      · rw [f]
        exact Or.inl ⟨q, hq, if_neg (nI_nlt (by omega) (by omega))⟩
      · rw [f]
        refine Or.inr ⟨if_neg (nI_nlt (Nat.le_refl _) (by omega)), fun i hi => ?_⟩
        by_cases c : i = t
        · rw [c]
          exact e
        · exact g i (by omega)
theorem bq_Rm {le lo : Nat → Int32} {b : Nat} (h : ∀ s, s < 4 → bq_RM (le (b + s)) (lo (b + s))) : bq_RM (bq_m4 (le b) le (b + 1) 3) (bq_m4 1000 lo b 4) := by
  have h0 := bq_RM_0 (h 0 (by omega))
  have h1 := bq_RM_min h0 (h 1 (by omega))
  have h2 := bq_RM_min h1 (h 2 (by omega))
  exact bq_RM_min h2 (h 3 (by omega))
/-- r is the least cost as the component gets it: from settled arrays -/
def bq_Ev (c top : Nat) (on tw : Nat → Nat) (code : Nat → Nat) (co : Nat → Int32) (site : Nat) (pin ps r : Int32) : Prop :=
  ∃ le wa, bq_XS c on tw (bq_ok c site code pin ps) co le wa ∧ r = bq_m4 (le (4 * top)) le (4 * top + 1) 3
section
variable {c top site : Nat} {par on tw code : Nat → Nat} {pin ps r : Int32} {co ra le wa lo mn : Nat → Int32} {su we : Nat → Int64}
theorem bq_EvR (H : bq_T c top par on tw) (hco : ∀ i, i < 16 → ∃ k, k ≤ 9 ∧ co i = nI k) (hE : bq_Ev c top on tw code co site pin ps r)
    (hY : bq_YS c on tw (bq_ok c site code pin ps) co ra lo mn su) : bq_RM r (bq_m4 1000 lo (4 * top) 4) := by
  obtain ⟨le, wa, hX, e⟩ := hE
  rw [e]
  exact bq_Rm (fun s hs => bq_RM_of (bq_n_le top) (bq_rel H hco hX hY top (bq_vt H) s hs))
theorem bq_okl (H : bq_T c top par on tw) (z : Nat) (hz : bq_V c z) (h8 : z < 8) : ∃ s, s < 4 ∧ bq_ok c site code (-1) ps z s = true := by
  refine ⟨bq_dg (code z) site, bq_dg_lt _ _, ?_⟩
  rw [bq_ok_u (by omega), decide_eq_true (rfl : bq_dg (code z) site = bq_dg (code z) site), Bool.or_true]
theorem bq_oki (H : bq_T c top par on tw) (z : Nat) (hz : bq_V c z) (h8 : 8 ≤ z) (s : Nat) : bq_ok c site code (-1) ps z s = true := by
  have := bq_c7 H
  have h14 := bq_lt14 H hz
  rw [bq_ok_u (by omega), decide_eq_true (show c ≤ z by omega), Bool.true_or]
theorem bq_EvF (H : bq_T c top par on tw) (hco : ∀ i, i < 16 → ∃ k, k ≤ 9 ∧ co i = nI k) (hE : bq_Ev c top on tw code co site (-1) ps r)
    (hY : bq_YS c on tw (bq_ok c site code (-1) ps) co ra lo mn su) : ∃ k, k ≤ 108 ∧ r = nI k ∧ bq_m4 1000 lo (4 * top) 4 = nI k := by
  rcases bq_EvR H hco hE hY with h | ⟨e, _⟩
  · exact h
  · exfalso
    obtain ⟨le, wa, hX, _⟩ := hE
    have R := bq_rel H hco hX hY
    have n7 : bq_n c top par top ≤ 7 := bq_n_le top
    obtain ⟨s, hs, k, hk, f⟩ := bq_exf H hco hX hY (fun z hz h8 => bq_okl H z hz h8) (fun z hz h8 s _ => bq_oki H z hz h8 s) top (bq_vt H)
    rcases bq_m4_fin (lo := lo) (b := 4 * top) 4 (fun i hi => by
      rcases bq_RLf (R top (bq_vt H) i hi) with ⟨q, a, b⟩ | a
      · exact Or.inl ⟨q, by omega, b⟩
      · exact Or.inr a) with ⟨q, a, b⟩ | ⟨_, a⟩
    · rw [b, nI_eq (by omega) (by omega)] at e
      omega
    · have := a s hs
      rw [f, nI_eq (by omega) (by omega)] at this
      omega
/-- ways: the sum over the best states -/
def bq_cn (best : Int32) (le wa : Nat → Int32) (b : Nat) : Nat → Int32
  | 0 => 0
  | t + 1 => if le (b + t) = best then bq_cn best le wa b t + wa (b + t) else bq_cn best le wa b t
theorem bq_cn_eq {N k b : Nat} (hN : N ≤ 7) (hk : k ≤ 108) (h : ∀ s, s < 4 → bq_RL N (le (b + s)) (wa (b + s)) (lo (b + s)) (mn (b + s))) :
    ∀ t, t ≤ 4 → bq_cn (nI k) le wa b t = bq_cn (nI k) lo mn b t := by
  intro t
  induction t with
  | zero => intro _; rfl
  | succ t ih =>
    intro ht
    simp only [bq_cn]
    rw [ih (by omega)]
    rcases h t (by omega) with ⟨q, a, e1, e2, e3⟩ | ⟨e2, q, a, b, e1⟩
    · rw [e1, e2, e3]
    · rw [e1, e2, if_neg, if_neg]
      · intro f
        rw [nI_eq (by omega) (by omega)] at f
        omega
      · intro f
        rw [nI_eq (by omega) (by omega)] at f
        omega
theorem bq_RM_eq {k : Nat} (hk : k ≤ 108) {l m : Int32} (h : bq_RM l m) : (l = nI k) ↔ (m = nI k) := by
  rcases h with ⟨q, a, e1, e2⟩ | ⟨e2, q, a, b, e1⟩
  · rw [e1, e2]
  · rw [e1, e2, nI_eq (by omega) (by omega), nI_eq (by omega) (by omega)]
    omega
end
theorem bq_or1 : ∀ t, t < 7 → ∀ m, m < 2 ^ t → (nI m ||| ((1 : Int32) <<< (nI t &&& 31))) = nI (m + 2 ^ t) ∧ nI m + ((1 : Int32) <<< (nI t &&& 31)) = nI (m + 2 ^ t) := by decide +kernel
/-- the component's choice among the totals S: node and total -/
def bq_bp (c : Nat) (S : Nat → Int32) : Nat → Int32 × Int32
  | 0 => (-1, 1000000)
  | t + 1 => if t < c ∨ (8 ≤ t ∧ t < 7 + c) then (if S t < (bq_bp c S t).2 then (nI t, S t) else bq_bp c S t) else bq_bp c S t
end
section
/-! the component's small walks -/
section
variable {c top : Nat} {par on tw d code : Nat → Nat} {pa cd co ra up le wa sb : Nat → Int32} {we : Nat → Int64}
theorem bx_isLeafCode {post : Int32 → Prop} {lc : Int32} (x : Int32) (h1 : ∀ k, k < 256 → x = nI k → post 1) (h0 : (∀ k, k < 256 → x ≠ nI k) → post 0) : wpX_isLeafCode post (lc, pa, cd, co, ra, up, le, wa, we, sb) x := by
  refine br_c (fun h => h0 (fun k hk e => ?_)) (fun h => ?_)
  · rw [e] at h
    exact nI_pos (by omega) h
  · obtain ⟨j, hj, rfl⟩ := nI_of h
    refine pk_le 256 j (fun hle => h0 (fun z hz e => ?_)) (fun hlt => h1 j hlt rfl)
    rw [nI_eq hj (by omega)] at e
    omega
theorem bx_isState {post : Int32 → Prop} {lc : Int32} (x : Int32) (h1 : ∀ k, k < 4 → x = nI k → post 1) (h0 : (∀ k, k < 4 → x ≠ nI k) → post 0) : wpX_isState post (lc, pa, cd, co, ra, up, le, wa, we, sb) x := by
  refine br_c (fun h => h0 (fun k hk e => ?_)) (fun h => ?_)
  · rw [e] at h
    exact nI_pos (by omega) h
  · obtain ⟨j, hj, rfl⟩ := nI_of h
    refine pk_le 4 j (fun hle => h0 (fun z hz e => ?_)) (fun hlt => h1 j hlt rfl)
    rw [nI_eq hj (by omega)] at e
    omega
theorem bx_isSite {post : Int32 → Prop} {lc : Int32} (x : Int32) (h1 : ∀ k, k < 4 → x = nI k → post 1) (h0 : (∀ k, k < 4 → x ≠ nI k) → post 0) : wpX_isSite post (lc, pa, cd, co, ra, up, le, wa, we, sb) x := by
  refine br_c (fun h => h0 (fun k hk e => ?_)) (fun h => ?_)
  · rw [e] at h
    exact nI_pos (by omega) h
  · obtain ⟨j, hj, rfl⟩ := nI_of h
    refine pk_le 4 j (fun hle => h0 (fun z hz e => ?_)) (fun hlt => h1 j hlt rfl)
    rw [nI_eq hj (by omega)] at e
    omega
theorem bx_isLeaf {post : Int32 → Prop} (hc : c ≤ 7) (x : Int32) (h1 : ∀ z, z < c → x = nI z → post 1) (h0 : (∀ z, z < c → x ≠ nI z) → post 0) : wpX_isLeaf post (nI c, pa, cd, co, ra, up, le, wa, we, sb) x := by
  refine br_c (fun h => h0 (fun k hk e => ?_)) (fun h => ?_)
  · rw [e] at h
    exact nI_pos (by omega) h
  · obtain ⟨j, hj, rfl⟩ := nI_of h
    refine pk_le c j (fun hle => h0 (fun z hz e => ?_)) (fun hlt => h1 j hlt rfl)
    rw [nI_eq hj (by omega)] at e
    omega
theorem bq_8c (c : Nat) : (8 + nI c) - 1 = nI (7 + c) := by
  rw [show (8 : Int32) = nI 8 from rfl, nI_add, show 8 + c = (7 + c) + 1 by omega, nI_pred]
theorem bx_isNode {post : Int32 → Prop} (hc : c ≤ 7) (x : Int32) (h1 : ∀ z, bq_V c z → x = nI z → post 1) (h0 : (∀ z, bq_V c z → x ≠ nI z) → post 0) : wpX_isNode post (nI c, pa, cd, co, ra, up, le, wa, we, sb) x := by
  unfold wpX_isNode
  dsimp only
  refine bx_isLeaf hc x (fun z hz e => br_f (by decide) (h1 z (Or.inl hz) e)) (fun hn => br_t rfl ?_)
  refine br_c (fun h8 => h0 (fun z hz e => ?_)) (fun h8 => ?_)
  · rcases hz with q | q
    · exact hn z q e
    · rw [e] at h8
      exact nI_nlt (a := z) (b := 8) q.1 (by omega) h8
  · have hx : ¬ x < 0 := fun q => h8 (Int32.lt_trans q (by decide))
    obtain ⟨j, hj, rfl⟩ := nI_of hx
    have j8 : 8 ≤ j := by
      by_cases q : 8 ≤ j
      · exact q
      · exact absurd (nI_lt (b := 8) (by omega) (by omega)) h8
    rw [bq_8c]
    refine pk_le (7 + c) j (fun hle => h0 (fun z hz e => ?_)) (fun hlt => h1 j (Or.inr ⟨j8, hlt⟩) rfl)
    rw [nI_eq hj (by rcases hz with q | q <;> omega)] at e
    rcases hz with q | q
    · exact hn z q (by rw [e])
    · omega
theorem bx_isNode_y {post : Int32 → Prop} (hc : c ≤ 7) {z : Nat} (hz : bq_V c z) (h : post 1) : wpX_isNode post (nI c, pa, cd, co, ra, up, le, wa, we, sb) (nI z) :=
  bx_isNode hc (nI z) (fun _ _ _ => h) (fun hn => absurd rfl (hn z hz))
theorem bq_V14 (hc : c ≤ 7) {z : Nat} (hz : bq_V c z) : z < 14 := by
  rcases hz with q | q <;> omega
theorem bx_isNode_n {post : Int32 → Prop} (hc : c ≤ 7) {z : Nat} (hz : ¬ bq_V c z) (h14 : z < 2 ^ 31) (h : post 0) : wpX_isNode post (nI c, pa, cd, co, ra, up, le, wa, we, sb) (nI z) := by
  refine bx_isNode hc (nI z) (fun w hw e => ?_) (fun _ => h)
  have := bq_V14 hc hw
  rw [nI_eq h14 (by omega)] at e
  rw [e] at hz
  exact absurd hw hz
theorem bx_isLeaf_y {post : Int32 → Prop} (hc : c ≤ 7) {z : Nat} (hz : z < c) (h : post 1) : wpX_isLeaf post (nI c, pa, cd, co, ra, up, le, wa, we, sb) (nI z) :=
  bx_isLeaf hc (nI z) (fun _ _ _ => h) (fun hn => absurd rfl (hn z hz))
theorem bx_isLeaf_n {post : Int32 → Prop} (hc : c ≤ 7) {z : Nat} (hz : ¬ z < c) (h14 : z < 2 ^ 31) (h : post 0) : wpX_isLeaf post (nI c, pa, cd, co, ra, up, le, wa, we, sb) (nI z) := by
  refine bx_isLeaf hc (nI z) (fun w hw e => ?_) (fun _ => h)
  rw [nI_eq h14 (by omega)] at e
  omega
theorem bx_above5 (H : bq_T c top par on tw) (hP : bq_PA c top par pa) {post : Int32 → Prop} {lc : Int32} {x : Nat} (hx : x < 2 ^ 31) :
    ∀ m z k n, bq_V c z → k + m = 7 → m < n → post (if bq_an top par x m z = true then 1 else 0) → wX_isAtOrAbove_5 post (nI x) lc pa cd co ra up le wa we sb n (nI z) (nI k) := by
  intro m
  induction m with
  | zero =>
    intro z k n hz hk hn h
    obtain ⟨n', rfl⟩ : ∃ n', n = n' + 1 := ⟨n - 1, by omega⟩
    exact pk_lt 6 k (fun _ => h) (fun q => absurd q (by omega))
  | succ m ih =>
    intro z k n hz hk hn h
    obtain ⟨n', rfl⟩ : ∃ n', n = n' + 1 := ⟨n - 1, by omega⟩
    have z14 := bq_lt14 H hz
    refine pk_lt 6 k (fun q => absurd q (by omega)) (fun _ => ?_)
    refine br_f (bq_nm1 (by omega)) ?_
    by_cases e : z = x
    · have e2 : bq_an top par x (m + 1) z = true := if_pos e
      rw [e2] at h
      exact br_t (by rw [e]) h
    · refine br_f (fun q => e ((nI_eq (by omega) hx).mp q)) ⟨pk_in z 14 z14, ?_⟩
      have ev : pa (nI z).toNatClampNeg = bq_en top par z := by
        rw [nI_clamp (by omega)]
        exact hP z hz
      refine nm_r ev (nm_r (nI_1 k) ?_)
      by_cases et : z = top
      · have e2 : bq_an top par x (m + 1) z = false := by
          show (if z = x then true else if z = top then false else _) = false
          rw [if_neg e, if_pos et]
        rw [e2] at h
        obtain ⟨n'', rfl⟩ : ∃ n'', n' = n'' + 1 := ⟨n' - 1, by omega⟩
        rw [et, bq_en_t]
        exact br_c (fun _ => h) (fun _ => br_t rfl h)
      · have e2 : bq_an top par x (m + 1) z = bq_an top par x m (par z) := by
          show (if z = x then true else if z = top then false else _) = _
          rw [if_neg e, if_neg et]
        rw [e2] at h
        rw [bq_en_n et]
        exact ih (par z) (k + 1) n' (bq_pv H hz et) (by omega) (by omega) h
theorem bx_above (H : bq_T c top par on tw) (hP : bq_PA c top par pa) {post : Int32 → Prop} {lc : Int32} {x z : Nat} (hx : x < 2 ^ 31) (hz : bq_V c z)
    (h1 : bq_A top par x z → post 1) (h0 : ¬ bq_A top par x z → post 0) : wpX_isAtOrAbove post (lc, pa, cd, co, ra, up, le, wa, we, sb) (nI x) (nI z) := by
  refine ⟨8, bx_above5 H hP hx 7 z 0 8 hz rfl (by omega) ?_⟩
  by_cases q : bq_A top par x z
  · rw [if_pos q]
    exact h1 q
  · rw [if_neg q]
    exact h0 q
theorem bx_root4 (H : bq_T c top par on tw) (hD : bq_D c top par d) (hP : bq_PA c top par pa) {post : Int32 → Prop} {lc : Int32} :
    ∀ m z k n, bq_V c z → d z ≤ m → k + m = 6 → m < n → post (nI top) → wX_root_4 post lc pa cd co ra up le wa we sb n (nI z) (nI k) := by
  intro m
  induction m with
  | zero =>
    intro z k n hz hd hk hn h
    obtain ⟨n', rfl⟩ : ∃ n', n = n' + 1 := ⟨n - 1, by omega⟩
    rw [bq_d0 hD hz (by omega)]
    exact pk_le 6 k (fun _ => h) (fun q => absurd q (by omega))
  | succ m ih =>
    intro z k n hz hd hk hn h
    obtain ⟨n', rfl⟩ : ∃ n', n = n' + 1 := ⟨n - 1, by omega⟩
    have z14 := bq_lt14 H hz
    have ev : pa (nI z).toNatClampNeg = bq_en top par z := by
      rw [nI_clamp (by omega)]
      exact hP z hz
    refine pk_le 6 k (fun q => absurd q (by omega)) (fun _ => ⟨pk_in z 14 z14, ?_⟩)
    by_cases et : z = top
    · refine br_t ?_ (by rw [et]; exact h)
      rw [ev, et, bq_en_t]
    · have hd2 := hD.2.1 z hz et
      have p14 := bq_lt14 H (bq_pv H hz et)
      refine br_f ?_ ⟨pk_in z 14 z14, nm_r (ev.trans (bq_en_n et)) (nm_r (nI_1 k) ?_)⟩
      · rw [ev, bq_en_n et]
        exact bq_nm1 (by omega)
      · exact ih (par z) (k + 1) n' (bq_pv H hz et) (by omega) (by omega) (by omega) h
theorem bx_root (H : bq_T c top par on tw) (hP : bq_PA c top par pa) {post : Int32 → Prop} {lc : Int32} (h : post (nI top)) : wpX_root post (lc, pa, cd, co, ra, up, le, wa, we, sb) := by
  obtain ⟨d, hD⟩ := bq_ex H
  exact ⟨7, bx_root4 H hD hP 6 0 0 7 (bq_v0 H) (hD.2.2 0 (bq_v0 H)) rfl (by omega) h⟩
theorem bx_depth12 (H : bq_T c top par on tw) (hD : bq_D c top par d) (hP : bq_PA c top par pa) {post : Int32 → Prop} {lc : Int32} :
    ∀ m z a k n, bq_V c z → d z ≤ m → k + m = 6 → m < n → post (nI (a + d z)) → wX_depthOf_12 post lc pa cd co ra up le wa we sb n (nI a) (bq_en top par z) (nI k) := by
  intro m
  induction m with
  | zero =>
    intro z a k n hz hd hk hn h
    obtain ⟨n', rfl⟩ : ∃ n', n = n' + 1 := ⟨n - 1, by omega⟩
    rw [show d z = 0 by omega] at h
    exact pk_le 6 k (fun _ => h) (fun q => absurd q (by omega))
  | succ m ih =>
    intro z a k n hz hd hk hn h
    obtain ⟨n', rfl⟩ : ∃ n', n = n' + 1 := ⟨n - 1, by omega⟩
    refine pk_le 6 k (fun q => absurd q (by omega)) (fun _ => ?_)
    by_cases et : z = top
    · rw [et, hD.1] at h
      rw [et, bq_en_t]
      exact br_t rfl h
    · have hd2 := hD.2.1 z hz et
      have vp := bq_pv H hz et
      have p14 := bq_lt14 H vp
      rw [bq_en_n et]
      refine br_f (bq_nm1 (by omega)) (nm_r (nI_1 a) ⟨pk_in (par z) 14 p14, nm_r (e' := bq_en top par (par z)) ?_ (nm_r (nI_1 k) ?_)⟩)
      · rw [nI_clamp (by omega)]
        exact hP _ vp
      · rw [hd2, show a + (d (par z) + 1) = a + 1 + d (par z) by omega] at h
        exact ih (par z) (a + 1) (k + 1) n' vp (by omega) (by omega) (by omega) h
theorem bx_depth (H : bq_T c top par on tw) (hD : bq_D c top par d) (hP : bq_PA c top par pa) {post : Int32 → Prop} {lc : Int32} {z : Nat} (hz : bq_V c z) (h : post (nI (d z))) : wpX_depthOf post (lc, pa, cd, co, ra, up, le, wa, we, sb) (nI z) := by
  have z14 := bq_lt14 H hz
  refine ⟨pk_in z 14 z14, nm_r (e' := bq_en top par z) ?_ ⟨7, bx_depth12 H hD hP 6 z 0 0 7 hz (hD.2.2 z hz) rfl (by omega) ?_⟩⟩
  · rw [nI_clamp (by omega)]
    exact hP z hz
  · rw [Nat.zero_add]
    exact h
theorem bx_set4 (H : bq_T c top par on tw) (hP : bq_PA c top par pa) {post : Int32 → Prop} {x : Nat} (hx : x < 2 ^ 31) :
    ∀ m j n, j + m = 7 → m < n → post (nI (bq_B c top par x)) → wX_leafSetOf_4 post (nI x) (nI c) pa cd co ra up le wa we sb n (nI (bq_mk (bq_lf c top par x) j)) (nI j) := by
  intro m
  induction m with
  | zero =>
    intro j n hj hn h
    obtain ⟨n', rfl⟩ : ∃ n', n = n' + 1 := ⟨n - 1, by omega⟩
    rw [show j = 7 by omega]
    exact br_t (by decide) h
  | succ m ih =>
    intro j n hj hn h
    obtain ⟨n', rfl⟩ : ∃ n', n = n' + 1 := ⟨n - 1, by omega⟩
    have c7 := bq_c7 H
    have e0 : ∀ b, bq_lf c top par x j = b → bq_mk (bq_lf c top par x) (j + 1) = bq_mk (bq_lf c top par x) j + (if b = true then 2 ^ j else 0) := fun b hb => by
      rw [← hb]
      rfl
    refine pk_le 7 j (fun q => absurd q (by omega)) (fun _ => ?_)
    by_cases hl : j < c
    · refine bx_isLeaf_y c7 hl (br_f (by decide) ?_)
      refine bx_above H hP hx (Or.inl hl) (fun hA => br_f (by decide) ?_) (fun hA => br_t rfl ?_)
      · have e1 := e0 true ((bq_lf_t hl).mpr hA)
        refine nm_r (e' := nI (bq_mk (bq_lf c top par x) (j + 1))) ?_ (nm_r (nI_1 j) (ih (j + 1) n' (by omega) (by omega) h))
        rw [e1, if_pos rfl]
        exact (bq_or1 j (by omega) _ (bq_mk_lt _ j)).2
      · have e1 : bq_mk (bq_lf c top par x) (j + 1) = bq_mk (bq_lf c top par x) j := e0 false (by
          cases q : bq_lf c top par x j
          · rfl
          · exact absurd ((bq_lf_t hl).mp q) hA)
        rw [← e1]
        exact nm_r (nI_1 j) (ih (j + 1) n' (by omega) (by omega) h)
    · have e1 : bq_mk (bq_lf c top par x) (j + 1) = bq_mk (bq_lf c top par x) j := e0 false (bq_lf_f hl)
      refine bx_isLeaf_n c7 hl (by omega) (br_t rfl ?_)
      rw [← e1]
      exact nm_r (nI_1 j) (ih (j + 1) n' (by omega) (by omega) h)
theorem bx_set (H : bq_T c top par on tw) (hP : bq_PA c top par pa) {post : Int32 → Prop} {x : Nat} (hx : x < 2 ^ 31) (h : post (nI (bq_B c top par x))) : wpX_leafSetOf post (nI c, pa, cd, co, ra, up, le, wa, we, sb) (nI x) :=
  ⟨8, bx_set4 H hP hx 7 0 8 rfl (by omega) h⟩
theorem bx_add (hc : c < 7) {z : Nat} (hz : bq_V c z) {p1 : Int32} {post : SX → Prop}
    (h : post (nI (c + 1), upd (upd (upd pa (7 + c) (pa z)) z (nI (7 + c))) c (nI (7 + c)), upd cd c p1, co, ra, up, le, wa, we, sb)) : wpX_addLeafBeside post (nI c, pa, cd, co, ra, up, le, wa, we, sb) (nI z) p1 := by
  have z14 := bq_V14 (show c ≤ 7 by omega) hz
  unfold wpX_addLeafBeside
  dsimp only
  refine nm_r (bq_8c c) ⟨pk_in c 7 hc, nm_r (e' := upd cd c p1) (by rw [nI_clamp (by omega)]) ⟨pk_in z 14 z14, pk_in (7 + c) 14 (by omega), nm_r (e' := upd pa (7 + c) (pa z)) (by rw [nI_clamp (by omega), nI_clamp (by omega)]) ⟨pk_in z 14 z14, nm_r (e' := upd (upd pa (7 + c) (pa z)) z (nI (7 + c))) (by rw [nI_clamp (by omega)]) ⟨pk_in c 14 (by omega), nm_r (e' := upd (upd (upd pa (7 + c) (pa z)) z (nI (7 + c))) c (nI (7 + c))) (by rw [nI_clamp (by omega)]) (nm_r (nI_1 c) h)⟩⟩⟩⟩
theorem bx_exch (hc : c ≤ 7) {x y : Nat} (hx : bq_V c x) (hy : bq_V c y) {lc : Int32} {post : SX → Prop}
    (h : post (lc, upd (upd pa x (pa y)) y (pa x), cd, co, ra, up, le, wa, we, sb)) : wpX_exchangePlaces post (lc, pa, cd, co, ra, up, le, wa, we, sb) (nI x) (nI y) := by
  have x14 := bq_V14 hc hx
  have y14 := bq_V14 hc hy
  unfold wpX_exchangePlaces
  dsimp only
  exact ⟨pk_in x 14 x14, nm_r (e' := pa x) (by rw [nI_clamp (by omega)]) ⟨pk_in y 14 y14, pk_in x 14 x14, nm_r (e' := upd pa x (pa y)) (by rw [nI_clamp (by omega), nI_clamp (by omega)]) ⟨pk_in y 14 y14, nm_r (e' := upd (upd pa x (pa y)) y (pa x)) (by rw [nI_clamp (by omega)]) h⟩⟩⟩
end
end
section
/-! the reference's small walks -/
theorem bq_dgI : ∀ s, s < 4 → ∀ code, code < 256 → (nI code >>> ((6 - (2 * nI s)) &&& 31)) &&& 3 = nI (bq_dg code s) := by decide +kernel
def bq_gv (ow : Nat → Int32) (l code s : Nat) : Nat → (Nat → Int32)
  | 0 => ow
  | m + 1 => bq_gv (upd ow (4 * l + s) (nI (bq_dg code s))) l code (s + 1) m
theorem bq_gv_at (l code : Nat) : ∀ m s ow w i, s + m ≤ 4 → i < 4 → bq_gv ow l code s m (4 * w + i) = if w = l ∧ s ≤ i ∧ i < s + m then nI (bq_dg code i) else ow (4 * w + i) := by
  intro m
  induction m with
  | zero =>
    intro s ow w i _ hi
    rw [if_neg (by omega)]
    rfl
  | succ m ih =>
    intro s ow w i hs hi
    show bq_gv (upd ow (4 * l + s) (nI (bq_dg code s))) l code (s + 1) m (4 * w + i) = _
    rw [ih (s + 1) _ w i (by omega) hi]
    by_cases a : w = l ∧ s + 1 ≤ i ∧ i < s + 1 + m
    · rw [if_pos a, if_pos ⟨a.1, by omega, by omega⟩]
    · rw [if_neg a]
      by_cases b : w = l ∧ i = s
      · rw [b.1, b.2, pk_us, if_pos ⟨rfl, by omega, by omega⟩]
      · by_cases e : w = l
        · rw [pk_un (by omega), if_neg (by omega)]
        · rw [pk_un (by omega), if_neg (by omega)]
section
variable {c top : Nat} {par on tw d code : Nat → Nat} {ow ab o t co ra lo mn ot : Nat → Int32} {su : Nat → Int64}
theorem by_badStates {post : Int32 → Prop} {ct tp : Int32} (x : Int32) (h0 : ∀ k, k < 256 → x = nI k → post 0) (h1 : (∀ k, k < 256 → x ≠ nI k) → post 1) : wpY_badStates post (ct, tp, ow, ab, o, t, co, ra, lo, mn, su, ot) x := by
  refine br_c (fun h => h1 (fun k hk e => ?_)) (fun h => ?_)
  · rw [e] at h
    exact nI_pos (by omega) h
  · obtain ⟨j, hj, rfl⟩ := nI_of h
    refine pk_le j 255 (fun hle => h0 j (by omega) rfl) (fun hlt => h1 (fun z hz e => ?_))
    rw [nI_eq hj (by omega)] at e
    omega
theorem by_badState {post : Int32 → Prop} {ct tp : Int32} (x : Int32) (h0 : ∀ k, k < 4 → x = nI k → post 0) (h1 : (∀ k, k < 4 → x ≠ nI k) → post 1) : wpY_badState post (ct, tp, ow, ab, o, t, co, ra, lo, mn, su, ot) x := by
  refine br_c (fun h => h1 (fun k hk e => ?_)) (fun h => ?_)
  · rw [e] at h
    exact nI_pos (by omega) h
  · obtain ⟨j, hj, rfl⟩ := nI_of h
    refine pk_le j 3 (fun hle => h0 j (by omega) rfl) (fun hlt => h1 (fun z hz e => ?_))
    rw [nI_eq hj (by omega)] at e
    omega
theorem by_bad {post : Int32 → Prop} {tp : Int32} (hc : c ≤ 7) (x : Int32) (h0 : ∀ z, bq_V c z → x = nI z → post 0) (h1 : (∀ z, bq_V c z → x ≠ nI z) → post 1) : wpY_bad post (nI c, tp, ow, ab, o, t, co, ra, lo, mn, su, ot) x := by
  unfold wpY_bad
  dsimp only
  refine br_c (fun h => h1 (fun z hz e => ?_)) (fun h => ?_)
  · rw [e] at h
    have := bq_V14 hc hz
    exact nI_pos (by omega) h
  · obtain ⟨j, hj, rfl⟩ := nI_of h
    have no : ¬ bq_V c j → ∀ z, bq_V c z → nI j ≠ nI z := fun q z hz e => by
      have := bq_V14 hc hz
      rw [nI_eq hj (by omega)] at e
      rw [e] at q
      exact q hz
    refine pk_le j 13 (fun a => ?_) (fun a => h1 (no (fun q => by rcases q with r | r <;> omega)))
    refine pk_le 8 j (fun b => ?_) (fun b => ?_)
    · rw [show (7 : Int32) + nI c = nI (7 + c) from nI_add 7 c]
      exact pk_lt j (7 + c) (fun e => h0 j (Or.inr ⟨b, e⟩) rfl) (fun e => h1 (no (fun q => by rcases q with r | r <;> omega)))
    · refine pk_le c j (fun e => h1 (no (fun q => by rcases q with r | r <;> omega))) (fun e => ?_)
      exact pk_le j 6 (fun f => h0 j (Or.inl e) rfl) (fun f => by omega)
theorem by_bad_y {post : Int32 → Prop} {tp : Int32} (hc : c ≤ 7) {z : Nat} (hz : bq_V c z) (h : post 0) : wpY_bad post (nI c, tp, ow, ab, o, t, co, ra, lo, mn, su, ot) (nI z) :=
  by_bad hc (nI z) (fun _ _ _ => h) (fun hn => absurd rfl (hn z hz))
theorem by_bad_n {post : Int32 → Prop} {tp : Int32} (hc : c ≤ 7) {z : Nat} (hz : ¬ bq_V c z) (h14 : z < 2 ^ 31) (h : post 1) : wpY_bad post (nI c, tp, ow, ab, o, t, co, ra, lo, mn, su, ot) (nI z) := by
  refine by_bad hc (nI z) (fun w hw e => ?_) (fun _ => h)
  have := bq_V14 hc hw
  rw [nI_eq h14 (by omega)] at e
  rw [e] at hz
  exact absurd hw hz
theorem by_over5 (H : bq_T c top par on tw) (hP : bq_PA c top par ab) {post : Int32 → Prop} {ct tp : Int32} {x : Nat} (hx : x < 2 ^ 31) :
    ∀ m z k n, bq_V c z → k + m = 16 → m < n → post (if bq_an top par x m z = true then 1 else 0) → wY_over_5 post (nI x) ct tp ow ab o t co ra lo mn su ot n (nI z) (nI k) := by
  intro m
  induction m with
  | zero =>
    intro z k n hz hk hn h
    obtain ⟨n', rfl⟩ : ∃ n', n = n' + 1 := ⟨n - 1, by omega⟩
    exact pk_le 16 k (fun _ => h) (fun q => absurd q (by omega))
  | succ m ih =>
    intro z k n hz hk hn h
    obtain ⟨n', rfl⟩ : ∃ n', n = n' + 1 := ⟨n - 1, by omega⟩
    have z14 := bq_lt14 H hz
    refine pk_le 16 k (fun q => absurd q (by omega)) (fun _ => ?_)
    refine br_f (nI_pos (by omega)) ?_
    by_cases e : z = x
    · have e2 : bq_an top par x (m + 1) z = true := if_pos e
      rw [e2] at h
      exact br_t (by rw [e]) h
    · refine br_f (fun q => e ((nI_eq (by omega) hx).mp q)) ⟨pk_in z 16 (by omega), ?_⟩
      have ev : ab (nI z).toNatClampNeg = bq_en top par z := by
        rw [nI_clamp (by omega)]
        exact hP z hz
      refine nm_r ev (nm_r (nI_1 k) ?_)
      by_cases et : z = top
      · have e2 : bq_an top par x (m + 1) z = false := by
          show (if z = x then true else if z = top then false else _) = false
          rw [if_neg e, if_pos et]
        rw [e2] at h
        obtain ⟨n'', rfl⟩ : ∃ n'', n' = n'' + 1 := ⟨n' - 1, by omega⟩
        rw [et, bq_en_t]
        exact br_c (fun _ => h) (fun _ => br_t (by decide) h)
      · have e2 : bq_an top par x (m + 1) z = bq_an top par x m (par z) := by
          show (if z = x then true else if z = top then false else _) = _
          rw [if_neg e, if_neg et]
        rw [e2] at h
        rw [bq_en_n et]
        exact ih (par z) (k + 1) n' (bq_pv H hz et) (by omega) (by omega) h
theorem by_over (H : bq_T c top par on tw) (hP : bq_PA c top par ab) {post : Int32 → Prop} {ct tp : Int32} {x z : Nat} (hx : x < 2 ^ 31) (hz : bq_V c z)
    (h1 : bq_A top par x z → post 1) (h0 : ¬ bq_A top par x z → post 0) : wpY_over post (ct, tp, ow, ab, o, t, co, ra, lo, mn, su, ot) (nI x) (nI z) := by
  obtain ⟨d, hD⟩ := bq_ex H
  have d6 := hD.2.2 z hz
  refine ⟨17, by_over5 H hP hx 16 z 0 17 hz rfl (by omega) ?_⟩
  rw [bq_an_st H hD x 16 7 z hz (by omega) (by omega)]
  by_cases q : bq_A top par x z
  · rw [if_pos q]
    exact h1 q
  · rw [if_neg q]
    exact h0 q
theorem by_below4 (H : bq_T c top par on tw) (hP : bq_PA c top par ab) {post : Int32 → Prop} {tp : Int32} {x : Nat} (hx : x < 2 ^ 31) :
    ∀ m j n, j + m = c → m < n → post (nI (bq_mk (bq_lf c top par x) c)) → wY_below_4 post (nI x) (nI c) tp ow ab o t co ra lo mn su ot n (nI (bq_mk (bq_lf c top par x) j)) (nI j) := by
  have c7 := bq_c7 H
  intro m
  induction m with
  | zero =>
    intro j n hj hn h
    obtain ⟨n', rfl⟩ : ∃ n', n = n' + 1 := ⟨n - 1, by omega⟩
    rw [show j = c by omega]
    exact br_t (nI_le (Nat.le_refl _) (by omega)) h
  | succ m ih =>
    intro j n hj hn h
    obtain ⟨n', rfl⟩ : ∃ n', n = n' + 1 := ⟨n - 1, by omega⟩
    have e0 : ∀ b, bq_lf c top par x j = b → bq_mk (bq_lf c top par x) (j + 1) = bq_mk (bq_lf c top par x) j + (if b = true then 2 ^ j else 0) := fun b hb => by
      rw [← hb]
      rfl
    have hl : j < c := by omega
    refine pk_le c j (fun q => absurd q (by omega)) (fun _ => ?_)
    refine by_over H hP hx (Or.inl hl) (fun hA => br_f (by decide) ?_) (fun hA => br_t rfl ?_)
    · have e1 := e0 true ((bq_lf_t hl).mpr hA)
      refine nm_r (e' := nI (bq_mk (bq_lf c top par x) (j + 1))) ?_ (nm_r (nI_1 j) (ih (j + 1) n' (by omega) (by omega) h))
      rw [e1, if_pos rfl]
      exact (bq_or1 j (by omega) _ (bq_mk_lt _ j)).1
    · have e1 : bq_mk (bq_lf c top par x) (j + 1) = bq_mk (bq_lf c top par x) j := e0 false (by
        cases q : bq_lf c top par x j
        · rfl
        · exact absurd ((bq_lf_t hl).mp q) hA)
      rw [← e1]
      exact nm_r (nI_1 j) (ih (j + 1) n' (by omega) (by omega) h)
theorem by_below (H : bq_T c top par on tw) (hP : bq_PA c top par ab) {post : Int32 → Prop} {tp : Int32} {x : Nat} (hx : x < 2 ^ 31) (h : post (nI (bq_B c top par x))) : wpY_below post (nI c, tp, ow, ab, o, t, co, ra, lo, mn, su, ot) (nI x) := by
  have c7 := bq_c7 H
  refine ⟨c + 1, by_below4 H hP hx c 0 (c + 1) (by omega) (by omega) ?_⟩
  have e := bq_mk_c c top par x (7 - c)
  rw [show c + (7 - c) = 7 by omega] at e
  rw [← e]
  exact h
theorem by_give2 {post : SY → Prop} {ct tp : Int32} {l cde : Nat} (hl : l < 7) (hcd : cde < 256) :
    ∀ m s n ow, s + m = 4 → m < n → post (ct, tp, bq_gv ow l cde s m, ab, o, t, co, ra, lo, mn, su, ot) → wY_give_2 post (nI l) (nI cde) ct tp n (nI s) ow ab o t co ra lo mn su ot := by
  intro m
  induction m with
  | zero =>
    intro s n ow hs hn h
    obtain ⟨n', rfl⟩ : ∃ n', n = n' + 1 := ⟨n - 1, by omega⟩
    exact pk_le 4 s (fun _ => h) (fun q => absurd q (by omega))
  | succ m ih =>
    intro s n ow hs hn h
    obtain ⟨n', rfl⟩ : ∃ n', n = n' + 1 := ⟨n - 1, by omega⟩
    have ei : (4 * nI l) + nI s = nI (4 * l + s) := by
      rw [show (4 : Int32) = nI 4 from rfl, pk_mul, nI_add]
    refine pk_le 4 s (fun q => absurd q (by omega)) (fun _ => ?_)
    rw [ei]
    refine ⟨pk_in (4 * l + s) 28 (by omega), nm_r (e' := upd ow (4 * l + s) (nI (bq_dg cde s))) ?_ (nm_r (nI_1 s) (ih (s + 1) n' _ (by omega) (by omega) h))⟩
    rw [nI_clamp (by omega), bq_dgI s (by omega) cde hcd]
theorem by_give {post : SY → Prop} {ct tp : Int32} {l cde : Nat} (hl : l < 7) (hcd : cde < 256) (h : post (ct, tp, bq_gv ow l cde 0 4, ab, o, t, co, ra, lo, mn, su, ot)) : wpY_give post (ct, tp, ow, ab, o, t, co, ra, lo, mn, su, ot) (nI l) (nI cde) :=
  ⟨5, by_give2 hl hcd 4 0 5 ow rfl (by omega) h⟩
theorem by_held {post : Int32 → Prop} {ct tp : Int32} {l cde : Nat} (hl : l < 7) (hcd : cde < 256) (ho : ∀ s, s < 4 → ow (4 * l + s) = nI (bq_dg cde s)) (h : post (nI cde)) : wpY_held post (ct, tp, ow, ab, o, t, co, ra, lo, mn, su, ot) (nI l) := by
  have e0 : 4 * nI l = nI (4 * l) := by
    rw [show (4 : Int32) = nI 4 from rfl, pk_mul]
  have e1 : nI (4 * l) + 1 = nI (4 * l + 1) := nI_add (4 * l) 1
  have e2 : nI (4 * l) + 2 = nI (4 * l + 2) := nI_add (4 * l) 2
  have e3 : nI (4 * l) + 3 = nI (4 * l + 3) := nI_add (4 * l) 3
  unfold wpY_held
  dsimp only
  rw [e0, e1, e2, e3]
  refine ⟨pk_in (4 * l) 28 (by omega), pk_in (4 * l + 1) 28 (by omega), pk_in (4 * l + 2) 28 (by omega), pk_in (4 * l + 3) 28 (by omega), ?_⟩
  have o0 := ho 0 (by omega)
  rw [Nat.add_zero] at o0
  rw [nI_clamp (by omega), nI_clamp (by omega), nI_clamp (by omega), nI_clamp (by omega), o0, ho 1 (by omega), ho 2 (by omega), ho 3 (by omega)]
  have e : nI (bq_dg cde 0) * 64 + nI (bq_dg cde 1) * 16 + nI (bq_dg cde 2) * 4 + nI (bq_dg cde 3) = nI cde := by
    rw [show (64 : Int32) = nI 64 from rfl, show (16 : Int32) = nI 16 from rfl, show (4 : Int32) = nI 4 from rfl, pk_mul, pk_mul, pk_mul, nI_add, nI_add, nI_add, bq_dg_sum hcd]
  rw [e]
  exact h
/-- x's place is given to y -/
theorem by_repl {post : SY → Prop} {ct : Int32} {x y : Nat} (hx : x < 16) (hy : y < 16) (hab : ab x = bq_en top par x) (hc : c ≤ 7) (hPC : bq_PC c on tw o t)
    (hk : x ≠ top → 8 ≤ par x ∧ par x < 7 + c ∧ (on (par x) = x ∨ tw (par x) = x) ∧ on (par x) ≠ tw (par x) ∧ on (par x) < 16)
    (h : ∀ o' t', bq_PC c (if x = top then on else bq_ra (par x) x y on) (if x = top then tw else bq_ra (par x) x y tw) o' t' →
      post (ct, nI (if x = top then y else top), ow, upd ab y (bq_en top par x), o', t', co, ra, lo, mn, su, ot)) :
    wpY_replace post (ct, nI top, ow, ab, o, t, co, ra, lo, mn, su, ot) (nI x) (nI y) := by
  unfold wpY_replace
  dsimp only
  refine ⟨pk_in x 16 hx, nm_r (e' := bq_en top par x) (by rw [nI_clamp (by omega)]; exact hab) ⟨pk_in y 16 hy, nm_r (e' := upd ab y (bq_en top par x)) (by rw [nI_clamp (by omega)]) ?_⟩⟩
  by_cases e : x = top
  · have h' := h o t (by rw [if_pos e, if_pos e]; exact hPC)
    rw [if_pos e] at h'
    have eq : bq_en top par x = -1 := by rw [e, bq_en_t]
    rw [eq] at h' ⊢
    exact br_f (by decide) h'
  · obtain ⟨g8, g7, k, ne, g16⟩ := hk e
    rw [if_neg e, if_neg e, if_neg e] at h
    rw [bq_en_n e] at h ⊢
    refine br_t (nI_pos' (by omega)) ⟨pk_in (par x) 16 (by omega), ?_⟩
    rw [nI_clamp (by omega), (hPC _ g8 g7).1]
    by_cases q : on (par x) = x
    · exact br_t (by rw [q]) ⟨pk_in (par x) 16 (by omega), nm_e (h _ _ (bq_PC_1 hPC q (fun r => ne (q.trans r.symm))))⟩
    · have q2 : tw (par x) = x := by
        rcases k with r | r
        · exact absurd r q
        · exact r
      exact br_f (fun r => q ((nI_eq (by omega) (by omega)).mp r)) ⟨pk_in (par x) 16 (by omega), nm_e (h _ _ (bq_PC_2 hPC q2 q))⟩
theorem by_join {post : SY → Prop} {ct tp : Int32} {p x y : Nat} (hp : p < 16) (hx : x < 16) (hy : y < 16)
    (h : post (ct, tp, ow, upd (upd ab x (nI p)) y (nI p), upd o p (nI x), upd t p (nI y), co, ra, lo, mn, su, ot)) : wpY_join post (ct, tp, ow, ab, o, t, co, ra, lo, mn, su, ot) (nI p) (nI x) (nI y) := by
  unfold wpY_join
  dsimp only
  rw [nI_clamp (by omega), nI_clamp (by omega), nI_clamp (by omega)]
  exact ⟨pk_in p 16 hp, nm_e ⟨pk_in p 16 hp, nm_e ⟨pk_in x 16 hx, nm_e ⟨pk_in y 16 hy, nm_e h⟩⟩⟩⟩
theorem by_putIn (H : bq_T c top par on tw) (hP : bq_PA c top par ab) (hPC : bq_PC c on tw o t) (hc : c < 7) {z cde : Nat} (hz : bq_V c z) (hcd : cde < 256) {post : SY → Prop}
    (h : ∀ o' t', bq_PC (c + 1) (bq_aO c z top par on) (bq_aW c z top par tw) o' t' →
      post (nI (c + 1), nI (bq_aT c z top), bq_gv ow c cde 0 4, upd (upd (upd ab (7 + c) (ab z)) z (nI (7 + c))) c (nI (7 + c)), o', t', co, ra, lo, mn, su, ot)) :
    wpY_putIn post (nI c, nI top, ow, ab, o, t, co, ra, lo, mn, su, ot) (nI z) (nI cde) := by
  have z14 := bq_lt14 H hz
  unfold wpY_putIn
  dsimp only
  refine nm_r (nI_add 7 c) (nm_r (nI_1 c) ?_)
  refine by_give hc hcd ?_
  refine by_repl (c := c) (top := top) (par := par) (on := on) (tw := tw) (by omega) (by omega) (hP z hz) (by omega) hPC (fun e => ?_) (fun o' t' hPC' => ?_)
  · have g8 := bq_p8 H hz e
    have g7 := bq_p7 H hz e
    have := bq_lt14 H (bq_on H g8 g7).1
    exact ⟨g8, g7, bq_pk H hz e, bq_nt H g8 g7, by omega⟩
  · refine by_join (by omega) (by omega) (by omega) ?_
    rw [← hP z hz]
    refine h _ _ (bq_PC_j (fun q h8 h7 hq => hPC' q h8 (by omega)))
theorem by_exch (H : bq_T c top par on tw) (hP : bq_PA c top par ab) (hPC : bq_PC c on tw o t) {x y : Nat} (hx : bq_V c x) (hy : bq_V c y) (xt : x ≠ top) (yt : y ≠ top) {ct tp : Int32} {post : SY → Prop}
    (h : ∀ o' t', bq_PC c (bq_wO x y par on) (bq_wO x y par tw) o' t' → post (ct, tp, ow, upd (upd ab x (ab y)) y (ab x), o', t', co, ra, lo, mn, su, ot)) : wpY_exchange post (ct, tp, ow, ab, o, t, co, ra, lo, mn, su, ot) (nI x) (nI y) := by
  have c7 := bq_c7 H
  have x14 := bq_lt14 H hx
  have y14 := bq_lt14 H hy
  have g8 := bq_p8 H hx xt
  have g7 := bq_p7 H hx xt
  have k8 := bq_p8 H hy yt
  have k7 := bq_p7 H hy yt
  have ax : ab x = nI (par x) := by rw [hP x hx, bq_en_n xt]
  have ay : ab y = nI (par y) := by rw [hP y hy, bq_en_n yt]
  unfold wpY_exchange
  dsimp only
  refine ⟨pk_in x 16 (by omega), nm_r (e' := nI (par x)) (by rw [nI_clamp (by omega)]; exact ax) ⟨pk_in y 16 (by omega), nm_r (e' := nI (par y)) (by rw [nI_clamp (by omega)]; exact ay) ?_⟩⟩
  by_cases e : par x = par y
  · refine br_t (by rw [e]) ?_
    have h' := h o t (by rw [bq_wO, bq_wO, if_pos e, if_pos e]; exact hPC)
    have ea : upd (upd ab x (ab y)) y (ab x) = ab := by
      funext j
      by_cases q : j = y
      · rw [q, pk_us, ax, ay, e]
      · rw [pk_un q]
        by_cases r : j = x
        · rw [r, pk_us, ax, ay, e]
        · rw [pk_un r]
    rw [ea] at h'
    exact h'
  · rw [bq_wO, bq_wO, if_neg e, if_neg e] at h
    refine br_f (fun q => e ((nI_eq (by omega) (by omega)).mp q)) (br_f (nI_pos (by omega)) (br_f (nI_pos (by omega)) ⟨pk_in (par x) 16 (by omega), ?_⟩))
    have L : ∀ o1 t1, bq_PC c (bq_ra (par x) x y on) (bq_ra (par x) x y tw) o1 t1 → wY_exchange_57 post (nI x) (nI y) (nI (par x)) (nI (par y)) ct tp ow ab o1 t1 co ra lo mn su ot := by
      intro o1 t1 hPC1
      have e' : par y ≠ par x := fun q => e q.symm
      have f1 : bq_ra (par x) x y on (par y) = on (par y) := bq_ra_o e'
      have f2 : bq_ra (par x) x y tw (par y) = tw (par y) := bq_ra_o e'
      have b := bq_lt14 H (bq_on H k8 k7).1
      have ne := bq_nt H k8 k7
      unfold wY_exchange_57
      refine ⟨pk_in (par y) 16 (by omega), ?_⟩
      rw [nI_clamp (by omega), (hPC1 _ k8 k7).1, f1]
      have M : ∀ o2 t2, bq_PC c (bq_ra (par y) y x (bq_ra (par x) x y on)) (bq_ra (par y) y x (bq_ra (par x) x y tw)) o2 t2 → wY_exchange_87 post (nI x) (nI y) (nI (par x)) (nI (par y)) ct tp ow ab o2 t2 co ra lo mn su ot := by
        intro o2 t2 hPC2
        unfold wY_exchange_87
        rw [nI_clamp (by omega), nI_clamp (by omega), ← ax, ← ay]
        exact ⟨pk_in x 16 (by omega), nm_e ⟨pk_in y 16 (by omega), nm_e (h _ _ hPC2)⟩⟩
      by_cases q : on (par y) = y
      · exact br_t (by rw [q]) ⟨pk_in (par y) 16 (by omega), nm_e (M _ _ (bq_PC_1 hPC1 (f1.trans q) (fun r => ne (q.trans (f2.symm.trans r).symm))))⟩
      · have q2 : tw (par y) = y := by
          rcases bq_pk H hy yt with r | r
          · exact absurd r q
          · exact r
        exact br_f (fun r => q ((nI_eq (by omega) (by omega)).mp r)) ⟨pk_in (par y) 16 (by omega), nm_e (M _ _ (bq_PC_2 hPC1 (f2.trans q2) (fun r => q (f1.symm.trans r))))⟩
    have b := bq_lt14 H (bq_on H g8 g7).1
    have ne := bq_nt H g8 g7
    rw [nI_clamp (by omega), (hPC _ g8 g7).1]
    by_cases q : on (par x) = x
    · exact br_t (by rw [q]) ⟨pk_in (par x) 16 (by omega), nm_e (L _ _ (bq_PC_1 hPC q (fun r => ne (q.trans r.symm))))⟩
    · have q2 : tw (par x) = x := by
        rcases bq_pk H hx xt with r | r
        · exact absurd r q
        · exact r
      exact br_f (fun r => q ((nI_eq (by omega) (by omega)).mp r)) ⟨pk_in (par x) 16 (by omega), nm_e (L _ _ (bq_PC_2 hPC q2 q))⟩
end
end
section
/-! the component's walks for least, ways, states and weight -/
theorem bq_dgX : ∀ s, s < 4 → ∀ code, code < 256 → (nI code >>> ((2 * (3 - nI s)) &&& 31)) &&& 3 = nI (bq_dg code s) := by decide +kernel
theorem bq_i4 (z s : Nat) : nI z * 4 + nI s = nI (4 * z + s) := by
  rw [show (4 : Int32) = nI 4 from rfl, pk_mul, nI_add, Nat.mul_comm z 4]
theorem bq_j4 (z s : Nat) : 4 * nI z + nI s = nI (4 * z + s) := by
  rw [show (4 : Int32) = nI 4 from rfl, pk_mul, nI_add]
theorem bq_k4 (z : Nat) : nI z * 4 = nI (4 * z) := by
  rw [show (4 : Int32) = nI 4 from rfl, pk_mul, Nat.mul_comm z 4]
section
variable {c top site m : Nat} {par on tw d code g : Nat → Nat} {pa cd co ra up le wa sb : Nat → Int32} {we : Nat → Int64} {pin ps : Int32}
theorem bx_mayHave {post : Int32 → Prop} (hc : c ≤ 7) (hC : bq_CX c code cd) {z s site : Nat} (hz : z < 14) (hs : s < 4) (hi : site < 4)
    (h1 : (decide (c ≤ z) || decide (bq_dg (code z) site = s)) = true → post 1) (h0 : (decide (c ≤ z) || decide (bq_dg (code z) site = s)) = false → post 0) :
    wpX_mayHave post (nI c, pa, cd, co, ra, up, le, wa, we, sb) (nI z) (nI s) (nI site) := by
  unfold wpX_mayHave
  dsimp only
  by_cases hl : z < c
  · refine bx_isLeaf_y hc hl (br_f (by decide) ?_)
    unfold wpX_stateOf
    dsimp only
    obtain ⟨h256, e⟩ := hC z hl
    have b := bq_dg_lt (code z) site
    refine ⟨pk_in z 7 (by omega), ?_⟩
    rw [nI_clamp (by omega), e, bq_dgX site hi (code z) h256]
    have e1 : decide (c ≤ z) = false := decide_eq_false (by omega)
    rw [e1, Bool.false_or] at h1 h0
    exact pk_eq (bq_dg (code z) site) s (fun q => h1 (decide_eq_true q)) (fun q => h0 (decide_eq_false q))
  · refine bx_isLeaf_n hc hl (by omega) (br_t rfl (h1 ?_))
    rw [decide_eq_true (show c ≤ z by omega), Bool.true_or]
/-- what startCosts has done, below index i -/
def bq_SC (ok : Nat → Nat → Bool) (i : Nat) (le wa : Nat → Int32) : Prop := ∀ z s, s < 4 → 4 * z + s < i → le (4 * z + s) = (if ok z s = true then 0 else 1000000) ∧ wa (4 * z + s) = 1
theorem bq_SC_s {ok : Nat → Nat → Bool} {z s : Nat} (hs : s < 4) (h : bq_SC ok (4 * z + s) le wa) : bq_SC ok (4 * z + (s + 1)) (upd le (4 * z + s) (if ok z s = true then 0 else 1000000)) (upd wa (4 * z + s) 1) := by
  intro w i hi hw
  by_cases e : 4 * w + i = 4 * z + s
  · have e1 : w = z := by omega
    have e2 : i = s := by omega
    rw [e1, e2, pk_us, pk_us]
    exact ⟨rfl, rfl⟩
  · rw [pk_un e, pk_un e]
    exact h w i hi (by omega)
theorem bx_sc13 (hc : c ≤ 7) (hC : bq_CX c code cd) (hi : site < 4) {post : SX → Prop} {J3 : Int32 → (Nat → Int32) → (Nat → Int32) → (Nat → Int32) → (Nat → Int32) → (Nat → Int32) → (Nat → Int32) → (Nat → Int32) → (Nat → Int64) → (Nat → Int32) → Prop} {z : Nat} (hz : z < 14)
    (K : ∀ le' wa', bq_SC (bq_ok c site code pin ps) (4 * (z + 1)) le' wa' → J3 (nI (z + 1)) pa cd co ra up le' wa' we sb) :
    ∀ r s n le wa, s + r = 4 → r < n → bq_SC (bq_ok c site code pin ps) (4 * z + s) le wa → wX_startCosts_13 post J3 (nI site) pin ps (nI z) (nI c) n (nI s) pa cd co ra up le wa we sb := by
  intro r
  induction r with
  | zero =>
    intro s n le wa hs hn h
    obtain ⟨n', rfl⟩ : ∃ n', n = n' + 1 := ⟨n - 1, by omega⟩
    refine pk_le 4 s (fun _ => nm_r (nI_1 z) (K le wa ?_)) (fun q => absurd q (by omega))
    rw [show 4 * (z + 1) = 4 * z + s by omega]
    exact h
  | succ r ih =>
    intro s n le wa hs hn h
    obtain ⟨n', rfl⟩ : ∃ n', n = n' + 1 := ⟨n - 1, by omega⟩
    refine pk_le 4 s (fun q => absurd q (by omega)) (fun _ => ?_)
    have G : ∀ v, v = (if bq_ok c site code pin ps z s = true then 0 else 1000000) →
        wX_startCosts_72 post J3 (wX_startCosts_13 post J3 (nI site) pin ps (nI z) (nI c) n') (nI site) pin ps (nI z) (nI s) v ((nI z * 4) + nI s) (nI c) pa cd co ra up le wa we sb := by
      intro v hv
      unfold wX_startCosts_72
      rw [bq_i4, nI_clamp (by omega), hv]
      exact ⟨pk_in (4 * z + s) 56 (by omega), nm_e ⟨pk_in (4 * z + s) 56 (by omega), nm_e (nm_r (nI_1 s) (ih (s + 1) n' _ _ (by omega) (by omega) (bq_SC_s (by omega) h)))⟩⟩
    have M : (decide (nI z ≠ pin) || decide (nI s = ps)) = true → wX_startCosts_31 post J3 (wX_startCosts_13 post J3 (nI site) pin ps (nI z) (nI c) n') (nI site) pin ps (nI z) (nI s) (nI c) pa cd co ra up le wa we sb := by
      intro hp
      unfold wX_startCosts_31 wX_startCosts_36
      refine br_f (by decide) (bx_mayHave hc hC hz (by omega) hi (fun q => br_f (by decide) (G 0 ?_)) (fun q => br_t rfl ?_))
      · rw [bq_ok, hp, q]
        rfl
      · unfold wX_startCosts_70
        refine G 1000000 ?_
        rw [bq_ok, hp, q]
        rfl
    refine br_c (fun e1 => br_c (fun e2 => M ?_) (fun e2 => ?_)) (fun e1 => M ?_)
    · rw [decide_eq_true e2, Bool.or_true]
    · unfold wX_startCosts_36 wX_startCosts_70
      refine br_t rfl (G 1000000 ?_)
      rw [bq_ok, decide_eq_false (fun q => q e1), decide_eq_false e2]
      rfl
    · rw [decide_eq_true e1, Bool.true_or]
theorem bx_sc3 (hc : c ≤ 7) (hC : bq_CX c code cd) (hi : site < 4) {post : SX → Prop}
    (K : ∀ le' wa', bq_SC (bq_ok c site code pin ps) 56 le' wa' → post (nI c, pa, cd, co, ra, up, le', wa', we, sb)) :
    ∀ r z n le wa, z + r = 14 → r < n → bq_SC (bq_ok c site code pin ps) (4 * z) le wa → wX_startCosts_3 post (nI site) pin ps (nI c) n (nI z) pa cd co ra up le wa we sb := by
  intro r
  induction r with
  | zero =>
    intro z n le wa hz hn h
    obtain ⟨n', rfl⟩ : ∃ n', n = n' + 1 := ⟨n - 1, by omega⟩
    refine pk_le 14 z (fun _ => K le wa ?_) (fun q => absurd q (by omega))
    rw [show 56 = 4 * z by omega]
    exact h
  | succ r ih =>
    intro z n le wa hz hn h
    obtain ⟨n', rfl⟩ : ∃ n', n = n' + 1 := ⟨n - 1, by omega⟩
    refine pk_le 14 z (fun q => absurd q (by omega)) (fun _ => ⟨5, ?_⟩)
    exact bx_sc13 hc hC hi (by omega) (fun le' wa' h' => ih (z + 1) n' le' wa' (by omega) (by omega) h') 4 0 5 le wa rfl (by omega) h
theorem bx_startCosts (hc : c ≤ 7) (hC : bq_CX c code cd) (hi : site < 4) {post : SX → Prop}
    (K : ∀ le' wa', bq_SC (bq_ok c site code pin ps) 56 le' wa' → post (nI c, pa, cd, co, ra, up, le', wa', we, sb)) : wpX_startCosts post (nI c, pa, cd, co, ra, up, le, wa, we, sb) (nI site) pin ps :=
  ⟨15, bx_sc3 hc hC hi K 14 0 15 le wa rfl (by omega) (fun z s _ h => absurd h (by omega))⟩
/-- the list, while it grows: depth dep, node z is next -/
def bq_LI (c top : Nat) (d : Nat → Nat) (dep z m : Nat) (up : Nat → Int32) : Prop := ∃ g : Nat → Nat,
  (∀ j, j < m → up j = nI (g j) ∧ bq_V c (g j) ∧ g j ≠ top ∧ (dep < d (g j) ∨ (d (g j) = dep ∧ g j < z))) ∧
  (∀ i j, i < j → j < m → g i ≠ g j ∧ d (g j) ≤ d (g i)) ∧ (∀ w, bq_V c w → w ≠ top → (dep < d w ∨ (d w = dep ∧ w < z)) → ∃ j, j < m ∧ g j = w)
theorem bq_Lm (H : bq_T c top par on tw) (h1 : ∀ j, j < m → bq_V c (g j) ∧ g j ≠ top) (h2 : ∀ i j, i < j → j < m → g i ≠ g j) : m ≤ 13 := by
  have := bq_pig 14 (m + 1) (bq_up g m top) (fun i hi => by
    by_cases e : i = m
    · rw [e, bq_us]
      exact bq_lt14 H (bq_vt H)
    · rw [bq_un e]
      exact bq_lt14 H (h1 i (by omega)).1) (fun i j hi hj q => by
    by_cases ei : i = m
    · by_cases ej : j = m
      · omega
      · rw [ei, bq_us, bq_un ej] at q
        exact absurd q.symm (h1 j (by omega)).2
    · by_cases ej : j = m
      · rw [ej, bq_us, bq_un ei] at q
        exact absurd q (h1 i (by omega)).2
      · rw [bq_un ei, bq_un ej] at q
        rcases Nat.lt_trichotomy i j with r | r | r
        · exact absurd q (h2 i j r (by omega))
        · exact r
        · exact absurd q.symm (h2 j i r (by omega)))
  omega
theorem bq_LI_add (H : bq_T c top par on tw) (hD : bq_D c top par d) {dep z : Nat} (hz : bq_V c z) (hd : d z = dep + 1) (h : bq_LI c top d (dep + 1) z m up) : m < 13 ∧ bq_LI c top d (dep + 1) (z + 1) (m + 1) (upd up m (nI z)) := by
  obtain ⟨g, a, b, e⟩ := h
  have zt : z ≠ top := fun q => by
    have := hD.1
    rw [← q] at this
    omega
  have a' : ∀ j, j < m + 1 → (upd up m (nI z)) j = nI (bq_up g m z j) ∧ bq_V c (bq_up g m z j) ∧ bq_up g m z j ≠ top ∧ (dep + 1 < d (bq_up g m z j) ∨ (d (bq_up g m z j) = dep + 1 ∧ bq_up g m z j < z + 1)) := by
    intro j hj
    by_cases q : j = m
    · rw [q, pk_us, bq_us]
      exact ⟨rfl, hz, zt, Or.inr ⟨hd, by omega⟩⟩
    · rw [pk_un q, bq_un q]
      obtain ⟨a1, a2, a3, a4⟩ := a j (by omega)
      exact ⟨a1, a2, a3, by omega⟩
  have b' : ∀ i j, i < j → j < m + 1 → bq_up g m z i ≠ bq_up g m z j ∧ d (bq_up g m z j) ≤ d (bq_up g m z i) := by
    intro i j hij hj
    rw [bq_un (show i ≠ m by omega)]
    by_cases q : j = m
    · rw [q, bq_us]
      obtain ⟨_, _, _, a4⟩ := a i (by omega)
      refine ⟨fun r => ?_, by omega⟩
      rw [r] at a4
      omega
    · rw [bq_un q]
      exact b i j hij (by omega)
  refine ⟨?_, bq_up g m z, a', b', ?_⟩
  · have := bq_Lm (m := m + 1) (g := bq_up g m z) H (fun j hj => ⟨(a' j hj).2.1, (a' j hj).2.2.1⟩) (fun i j p q => (b' i j p q).1)
    omega
  · intro w hw wt hg
    by_cases q : w = z
    · exact ⟨m, by omega, by rw [bq_us, q]⟩
    · obtain ⟨j, hj, ej⟩ := e w hw wt (by omega)
      exact ⟨j, by omega, by rw [bq_un (by omega)]; exact ej⟩
theorem bq_LI_skip {dep z : Nat} (hz : bq_V c z → d z ≠ dep) (h : bq_LI c top d dep z m up) : bq_LI c top d dep (z + 1) m up := by
  obtain ⟨g, a, b, e⟩ := h
  refine ⟨g, fun j hj => ?_, b, fun w hw wt hg => ?_⟩
  · obtain ⟨a1, a2, a3, a4⟩ := a j hj
    exact ⟨a1, a2, a3, by omega⟩
  · by_cases q : w = z
    · rw [q] at hw hg
      have := hz hw
      rw [q]
      rw [q] at wt
      exact e z hw wt (by omega)
    · exact e w hw wt (by omega)
theorem bq_LI_next (H : bq_T c top par on tw) {dep : Nat} (h : bq_LI c top d (dep + 1) 14 m up) : bq_LI c top d dep 0 m up := by
  obtain ⟨g, a, b, e⟩ := h
  refine ⟨g, fun j hj => ?_, b, fun w hw wt hg => ?_⟩
  · obtain ⟨a1, a2, a3, a4⟩ := a j hj
    exact ⟨a1, a2, a3, by omega⟩
  · have := bq_lt14 H hw
    exact e w hw wt (by omega)
theorem bq_LI_0 (hD : bq_D c top par d) : bq_LI c top d 6 0 0 up :=
  ⟨fun _ => 0, fun j hj => absurd hj (by omega), fun i j _ hj => absurd hj (by omega), fun w hw _ hg => by
    have := hD.2.2 w hw
    omega⟩
theorem bq_LI_end (H : bq_T c top par on tw) (hD : bq_D c top par d) (h : bq_LI c top d 0 0 m up) : ∃ g : Nat → Nat, (∀ j, j < m → up j = nI (g j)) ∧ bq_G c top d g m := by
  obtain ⟨g, a, b, e⟩ := h
  refine ⟨g, fun j hj => (a j hj).1, fun j hj => ⟨(a j hj).2.1, (a j hj).2.2.1⟩, b, fun z hz zt => ?_, ?_⟩
  · have := hD.2.1 z hz zt
    exact e z hz zt (by omega)
  · exact bq_Lm H (fun j hj => ⟨(a j hj).2.1, (a j hj).2.2.1⟩) (fun i j p q => (b i j p q).1)
theorem bx_lu11 (H : bq_T c top par on tw) (hD : bq_D c top par d) (hP : bq_PA c top par pa) {post : Int32 → SX → Prop} {J5 : Int32 → Int32 → (Nat → Int32) → (Nat → Int32) → (Nat → Int32) → (Nat → Int32) → (Nat → Int32) → (Nat → Int32) → (Nat → Int32) → (Nat → Int64) → (Nat → Int32) → Prop} {dep : Nat} (h6 : dep < 6)
    (K : ∀ m' up', bq_LI c top d dep 0 m' up' → J5 (nI m') (nI dep) pa cd co ra up' le wa we sb) :
    ∀ r z n m up, z + r = 14 → r < n → bq_LI c top d (dep + 1) z m up → wX_listUpwards_11 post J5 (nI (dep + 1)) (nI c) n (nI m) (nI z) pa cd co ra up le wa we sb := by
  intro r
  induction r with
  | zero =>
    intro z n m up hz hn h
    obtain ⟨n', rfl⟩ : ∃ n', n = n' + 1 := ⟨n - 1, by omega⟩
    rw [show z = 14 by omega] at h
    exact pk_le 14 z (fun _ => nm_r (pk_m1 dep) (K m up (bq_LI_next H h))) (fun q => absurd q (by omega))
  | succ r ih =>
    intro z n m up hz hn h
    obtain ⟨n', rfl⟩ : ∃ n', n = n' + 1 := ⟨n - 1, by omega⟩
    have c7 := bq_c7 H
    refine pk_le 14 z (fun q => absurd q (by omega)) (fun _ => ?_)
    by_cases hv : bq_V c z
    · refine bx_isNode_y c7 hv (br_f (by decide) (bx_depth H hD hP hv ?_))
      have d6 := hD.2.2 z hv
      refine pk_eq (d z) (dep + 1) (fun e => ?_) (fun e => ?_)
      · obtain ⟨m13, h'⟩ := bq_LI_add H hD hv e h
        refine ⟨pk_in m 14 (by omega), nm_r (e' := upd up m (nI z)) (by rw [nI_clamp (by omega)]) (nm_r (nI_1 m) (nm_r (nI_1 z) (ih (z + 1) n' (m + 1) _ (by omega) (by omega) h')))⟩
      · exact nm_r (nI_1 z) (ih (z + 1) n' m up (by omega) (by omega) (bq_LI_skip (fun _ => e) h))
    · refine bx_isNode_n c7 hv (by omega) (br_t rfl ?_)
      exact nm_r (nI_1 z) (ih (z + 1) n' m up (by omega) (by omega) (bq_LI_skip (fun q => absurd q hv) h))
theorem bx_lu5 (H : bq_T c top par on tw) (hD : bq_D c top par d) (hP : bq_PA c top par pa) {post : Int32 → SX → Prop}
    (K : ∀ m' up', bq_LI c top d 0 0 m' up' → post (nI m') (nI c, pa, cd, co, ra, up', le, wa, we, sb)) :
    ∀ dep n m up, dep ≤ 6 → dep < n → bq_LI c top d dep 0 m up → wX_listUpwards_5 post (nI c) n (nI m) (nI dep) pa cd co ra up le wa we sb := by
  intro dep
  induction dep with
  | zero =>
    intro n m up _ hn h
    obtain ⟨n', rfl⟩ : ∃ n', n = n' + 1 := ⟨n - 1, by omega⟩
    exact br_t (by decide) (K m up h)
  | succ dep ih =>
    intro n m up h6 hn h
    obtain ⟨n', rfl⟩ : ∃ n', n = n' + 1 := ⟨n - 1, by omega⟩
    refine pk_le (dep + 1) 0 (fun q => absurd q (by omega)) (fun _ => ⟨15, ?_⟩)
    exact bx_lu11 H hD hP (by omega) (fun m' up' h' => ih n' m' up' (by omega) (by omega) h') 14 0 15 m up rfl (by omega) h
theorem bx_list (H : bq_T c top par on tw) (hD : bq_D c top par d) (hP : bq_PA c top par pa) {post : Int32 → SX → Prop}
    (K : ∀ m' up' g, (∀ j, j < m' → up' j = nI (g j)) → bq_G c top d g m' → post (nI m') (nI c, pa, cd, co, ra, up', le, wa, we, sb)) : wpX_listUpwards post (nI c, pa, cd, co, ra, up, le, wa, we, sb) := by
  refine ⟨7, bx_lu5 H hD hP (fun m' up' h => ?_) 6 7 0 up (by omega) (by omega) (bq_LI_0 hD)⟩
  obtain ⟨g, a, b⟩ := bq_LI_end H hD h
  exact K m' up' g a b
end
end
section
/-! carrying costs and weights up; leastCost; weight -/
section
variable {st : Int32} {co lo mn : Nat → Int32} {a b t : Nat}
theorem bq_l_1 (h : bq_l st co lo a b t ≤ co (a + t) + lo (b + t)) : bq_l st co lo a b (t + 1) = bq_l st co lo a b t := if_neg (Int32.not_lt.mpr h)
theorem bq_l_2 (h : ¬ bq_l st co lo a b t ≤ co (a + t) + lo (b + t)) : bq_l st co lo a b (t + 1) = co (a + t) + lo (b + t) := if_pos (Int32.not_le.mp h)
theorem bq_w_1 (h : bq_l st co lo a b t ≤ co (a + t) + lo (b + t)) (e : co (a + t) + lo (b + t) = bq_l st co lo a b t) : bq_w st co lo mn a b (t + 1) = bq_w st co lo mn a b t + mn (b + t) := by
  have h' := Int32.not_lt.mpr h
  simp only [bq_w, if_neg h', if_pos e]
theorem bq_w_2 (h : bq_l st co lo a b t ≤ co (a + t) + lo (b + t)) (e : ¬ co (a + t) + lo (b + t) = bq_l st co lo a b t) : bq_w st co lo mn a b (t + 1) = bq_w st co lo mn a b t := by
  have h' := Int32.not_lt.mpr h
  simp only [bq_w, if_neg h', if_neg e]
theorem bq_w_3 (h : ¬ bq_l st co lo a b t ≤ co (a + t) + lo (b + t)) : bq_w st co lo mn a b (t + 1) = 0 + mn (b + t) := by
  have h' := Int32.not_le.mp h
  simp only [bq_w, if_pos h', if_true]
end
section
variable {c top site m : Nat} {par on tw d code g : Nat → Nat} {pa cd co ra up le wa sb : Nat → Int32} {we : Nat → Int64} {pin ps : Int32}
theorem bx_cc26 {post : SX → Prop} {J11 : Int32 → (Nat → Int32) → (Nat → Int32) → (Nat → Int32) → (Nat → Int32) → (Nat → Int32) → (Nat → Int32) → (Nat → Int32) → (Nat → Int64) → (Nat → Int32) → Prop} {k p s : Nat} (hk : k < 14) (hp : p < 14) (hs : s < 4)
    (K : J11 (nI (s + 1)) pa cd co ra up (upd le (4 * p + s) (le (4 * p + s) + bq_l 2000000 co le (4 * s) (4 * k) 4)) (upd wa (4 * p + s) (wa (4 * p + s) * bq_w 2000000 co le wa (4 * s) (4 * k) 4)) we sb) :
    ∀ r t n, t + r = 4 → r < n → wX_carryCostsUp_26 post J11 (nI k) (nI (4 * p)) (nI s) (nI c) pa cd co ra up le wa we sb n (bq_l 2000000 co le (4 * s) (4 * k) t) (bq_w 2000000 co le wa (4 * s) (4 * k) t) (nI t) := by
  intro r
  induction r with
  | zero =>
    intro t n ht hn
    obtain ⟨n', rfl⟩ : ∃ n', n = n' + 1 := ⟨n - 1, by omega⟩
    obtain rfl : t = 4 := by omega
    refine br_t (by decide) ?_
    rw [nI_add, nI_clamp (by omega)]
    exact ⟨pk_in (4 * p + s) 56 (by omega), pk_in (4 * p + s) 56 (by omega), nm_e ⟨pk_in (4 * p + s) 56 (by omega), pk_in (4 * p + s) 56 (by omega), nm_e (nm_r (nI_1 s) K)⟩⟩
  | succ r ih =>
    intro t n ht hn
    obtain ⟨n', rfl⟩ : ∃ n', n = n' + 1 := ⟨n - 1, by omega⟩
    have key := ih (t + 1) n' (by omega) (by omega)
    refine pk_le 4 t (fun q => absurd q (by omega)) (fun _ => ?_)
    rw [bq_i4, bq_i4, nI_clamp (by omega), nI_clamp (by omega)]
    refine ⟨pk_in (4 * s + t) 16 (by omega), pk_in (4 * k + t) 56 (by omega), nm_e ?_⟩
    refine br_c (fun h => ?_) (fun h => ?_)
    · unfold wX_carryCostsUp_71
      rw [bq_i4, nI_clamp (by omega)]
      rw [bq_l_1 h] at key
      refine br_c (fun e => ⟨pk_in (4 * k + t) 56 (by omega), nm_e (nm_r (nI_1 t) ?_)⟩) (fun e => nm_r (nI_1 t) ?_)
      · rw [bq_w_1 h e] at key
        exact key
      · rw [bq_w_2 h e] at key
        exact key
    · unfold wX_carryCostsUp_71
      rw [bq_i4, nI_clamp (by omega)]
      rw [bq_l_2 h, bq_w_3 h] at key
      exact br_t rfl ⟨pk_in (4 * k + t) 56 (by omega), nm_e (nm_r (nI_1 t) key)⟩
/-- after s of the four states of p have been carried to -/
def bq_CI (co le wa : Nat → Int32) (k p s : Nat) (le' wa' : Nat → Int32) : Prop :=
  (∀ i, i < s → le' (4 * p + i) = le (4 * p + i) + bq_l 2000000 co le (4 * i) (4 * k) 4 ∧ wa' (4 * p + i) = wa (4 * p + i) * bq_w 2000000 co le wa (4 * i) (4 * k) 4) ∧
  (∀ w i, i < 4 → (w ≠ p ∨ s ≤ i) → le' (4 * w + i) = le (4 * w + i) ∧ wa' (4 * w + i) = wa (4 * w + i))
theorem bq_CI_s {k p s : Nat} {le' wa' : Nat → Int32} (hkp : k ≠ p) (hs : s < 4) (h : bq_CI co le wa k p s le' wa') :
    bq_CI co le wa k p (s + 1) (upd le' (4 * p + s) (le' (4 * p + s) + bq_l 2000000 co le' (4 * s) (4 * k) 4)) (upd wa' (4 * p + s) (wa' (4 * p + s) * bq_w 2000000 co le' wa' (4 * s) (4 * k) 4)) := by
  have e1 : bq_l 2000000 co le' (4 * s) (4 * k) 4 = bq_l 2000000 co le (4 * s) (4 * k) 4 := bq_l_cg 4 (fun i hi => (h.2 k i hi (Or.inl hkp)).1)
  have e2 : bq_w 2000000 co le' wa' (4 * s) (4 * k) 4 = bq_w 2000000 co le wa (4 * s) (4 * k) 4 := bq_w_cg 4 (fun i hi => (h.2 k i hi (Or.inl hkp)).1) (fun i hi => (h.2 k i hi (Or.inl hkp)).2)
  refine ⟨fun i hi => ?_, fun w i hi hw => ?_⟩
  · by_cases e : i = s
    · rw [e, pk_us, pk_us, e1, e2, (h.2 p s hs (Or.inr (Nat.le_refl _))).1, (h.2 p s hs (Or.inr (Nat.le_refl _))).2]
      exact ⟨rfl, rfl⟩
    · rw [pk_un (by omega), pk_un (by omega)]
      exact h.1 i (by omega)
  · rw [pk_un (by omega), pk_un (by omega)]
    exact h.2 w i hi (by omega)
theorem bx_cc11 {post : SX → Prop} {k p : Nat} (hk : k < 14) (hp : p < 14) (hkp : k ≠ p)
    (K : ∀ le' wa', bq_CI co le wa k p 4 le' wa' → post (nI c, pa, cd, co, ra, up, le', wa', we, sb)) :
    ∀ r s n le' wa', s + r = 4 → r < n → bq_CI co le wa k p s le' wa' → wX_carryCostsUp_11 post (nI k) (nI (4 * p)) (nI c) n (nI s) pa cd co ra up le' wa' we sb := by
  intro r
  induction r with
  | zero =>
    intro s n le' wa' hs hn h
    obtain ⟨n', rfl⟩ : ∃ n', n = n' + 1 := ⟨n - 1, by omega⟩
    obtain rfl : s = 4 := by omega
    exact br_t (by decide) (K le' wa' h)
  | succ r ih =>
    intro s n le' wa' hs hn h
    obtain ⟨n', rfl⟩ : ∃ n', n = n' + 1 := ⟨n - 1, by omega⟩
    refine pk_le 4 s (fun q => absurd q (by omega)) (fun _ => ⟨5, ?_⟩)
    exact bx_cc26 hk hp (by omega) (ih (s + 1) n' _ _ (by omega) (by omega) (bq_CI_s hkp (by omega) h)) 4 0 5 rfl (by omega)
theorem bx_carry (H : bq_T c top par on tw) (hP : bq_PA c top par pa) {k : Nat} (hk : bq_V c k) (kt : k ≠ top) {post : SX → Prop}
    (K : ∀ le' wa', bq_CI co le wa k (par k) 4 le' wa' → post (nI c, pa, cd, co, ra, up, le', wa', we, sb)) : wpX_carryCostsUp post (nI c, pa, cd, co, ra, up, le, wa, we, sb) (nI k) := by
  have k14 := bq_lt14 H hk
  have p14 := bq_lt14 H (bq_pv H hk kt)
  have kp : k ≠ par k := fun q => bq_par_nA H hk kt (by rw [← q]; exact bq_A_rf k)
  refine ⟨pk_in k 14 k14, nm_r (e' := nI (4 * par k)) ?_ ⟨5, ?_⟩⟩
  · rw [nI_clamp (by omega), hP k hk, bq_en_n kt, bq_k4]
  · exact bx_cc11 k14 p14 kp K 4 0 5 le wa rfl (by omega) ⟨fun i hi => absurd hi (by omega), fun _ _ _ _ => ⟨rfl, rfl⟩⟩
theorem bx_lc60 {post : Int32 → SX → Prop} {tp : Nat} (htp : tp < 14) {lc : Int32} (K : post (bq_m4 (le (4 * tp)) le (4 * tp + 1) 3) (lc, pa, cd, co, ra, up, le, wa, we, sb)) :
    ∀ r j n, j + r = 3 → r < n → wX_leastCost_60 post (nI (4 * tp)) lc pa cd co ra up le wa we sb n (bq_m4 (le (4 * tp)) le (4 * tp + 1) j) (nI (1 + j)) := by
  intro r
  induction r with
  | zero =>
    intro j n hj hn
    obtain ⟨n', rfl⟩ : ∃ n', n = n' + 1 := ⟨n - 1, by omega⟩
    obtain rfl : j = 3 := by omega
    exact br_t (by decide) K
  | succ r ih =>
    intro j n hj hn
    obtain ⟨n', rfl⟩ : ∃ n', n = n' + 1 := ⟨n - 1, by omega⟩
    have key := ih (j + 1) n' (by omega) (by omega)
    have ej : nI (1 + j) + 1 = nI (1 + (j + 1)) := nI_1 (1 + j)
    refine pk_le 4 (1 + j) (fun q => absurd q (by omega)) (fun _ => ?_)
    rw [nI_add, nI_clamp (by omega), ← Nat.add_assoc]
    refine ⟨pk_in (4 * tp + 1 + j) 56 (by omega), ?_⟩
    refine br_c (fun h => nm_r ej ?_) (fun h => ⟨pk_in (4 * tp + 1 + j) 56 (by omega), nm_e (nm_r ej ?_)⟩)
    · rw [show bq_m4 (le (4 * tp)) le (4 * tp + 1) (j + 1) = bq_m4 (le (4 * tp)) le (4 * tp + 1) j from if_neg (Int32.not_lt.mpr h)] at key
      exact key
    · rw [show bq_m4 (le (4 * tp)) le (4 * tp + 1) (j + 1) = le (4 * tp + 1 + j) from if_pos (Int32.not_le.mp h)] at key
      exact key
theorem bx_lc16 (H : bq_T c top par on tw) (hD : bq_D c top par d) (hP : bq_PA c top par pa) {ok : Nat → Nat → Bool} {post : Int32 → SX → Prop}
    (hu : ∀ j, j < m → up j = nI (g j)) (hG : bq_G c top d g m)
    (K : ∀ le' wa', bq_XS c on tw ok co le' wa' → post (bq_m4 (le' (4 * top)) le' (4 * top + 1) 3) (nI c, pa, cd, co, ra, up, le', wa', we, sb)) :
    ∀ r i n le wa, i + r = m → r < n → bq_XI c on tw ok co g i le wa → wX_leastCost_16 post (nI m) n (nI i) (nI c) pa cd co ra up le wa we sb := by
  have m13 := hG.2.2.2
  intro r
  induction r with
  | zero =>
    intro i n le wa hi hn h
    obtain ⟨n', rfl⟩ : ∃ n', n = n' + 1 := ⟨n - 1, by omega⟩
    obtain rfl : i = m := by omega
    have t14 := bq_lt14 H (bq_vt H)
    refine br_t (nI_le (Nat.le_refl _) (by omega)) (bx_root H hP (nm_r (bq_k4 top) ?_))
    refine ⟨pk_in (4 * top) 56 (by omega), nm_r (e' := le (4 * top)) (by rw [nI_clamp (by omega)]) ⟨4, ?_⟩⟩
    exact bx_lc60 t14 (K le wa (bq_XI_m H hG h)) 3 0 4 rfl (by omega)
  | succ r ih =>
    intro i n le wa hi hn h
    obtain ⟨n', rfl⟩ : ∃ n', n = n' + 1 := ⟨n - 1, by omega⟩
    refine pk_le m i (fun q => absurd q (by omega)) (fun _ => ⟨pk_in i 14 (by omega), ?_⟩)
    rw [nI_clamp (by omega), hu i (by omega)]
    obtain ⟨vk, kt⟩ := hG.1 i (by omega)
    refine bx_carry H hP vk kt (fun le' wa' h' => ?_)
    refine nm_r (nI_1 i) (ih (i + 1) n' le' wa' (by omega) (by omega) ?_)
    exact bq_XI_s H hD hG (by omega) h (fun s hs => (h'.1 s hs).1) (fun s hs => (h'.1 s hs).2) (fun z s hs hz => h'.2 z s hs (Or.inl hz))
theorem bx_leastCost (H : bq_T c top par on tw) (hP : bq_PA c top par pa) (hC : bq_CX c code cd) (hi : site < 4) {post : Int32 → SX → Prop}
    (K : ∀ up' le' wa', bq_XS c on tw (bq_ok c site code pin ps) co le' wa' → post (bq_m4 (le' (4 * top)) le' (4 * top + 1) 3) (nI c, pa, cd, co, ra, up', le', wa', we, sb)) : wpX_leastCost post (nI c, pa, cd, co, ra, up, le, wa, we, sb) (nI site) pin ps := by
  obtain ⟨d, hD⟩ := bq_ex H
  have c7 := bq_c7 H
  unfold wpX_leastCost
  dsimp only
  refine bx_startCosts c7 hC hi (fun le1 wa1 h1 => ?_)
  refine bx_list H hD hP (fun m up' g hu hG => ?_)
  refine ⟨m + 1, bx_lc16 H hD hP hu hG (fun le' wa' h => K up' le' wa' h) m 0 (m + 1) le1 wa1 (by omega) (by omega) ?_⟩
  refine bq_XI_0 (fun z hz s hs => h1 z s hs ?_)
  have := bq_lt14 H hz
  omega
/-- weights -/
def bq_SW (ok : Nat → Nat → Bool) (i : Nat) (we : Nat → Int64) : Prop := ∀ z s, s < 4 → 4 * z + s < i → we (4 * z + s) = (if ok z s = true then 1 else 0)
theorem bq_SW_s {ok : Nat → Nat → Bool} {z s : Nat} (hs : s < 4) (h : bq_SW ok (4 * z + s) we) : bq_SW ok (4 * z + (s + 1)) (vp_updL we (4 * z + s) (if ok z s = true then 1 else 0)) := by
  intro w i hi hw
  by_cases e : 4 * w + i = 4 * z + s
  · have e1 : w = z := by omega
    have e2 : i = s := by omega
    rw [e1, e2, pk_uLs]
  · rw [pk_uLn e]
    exact h w i hi (by omega)
theorem bx_sw10 (hc : c ≤ 7) (hC : bq_CX c code cd) (hi : site < 4) {post : SX → Prop} {J2 : Int32 → (Nat → Int32) → (Nat → Int32) → (Nat → Int32) → (Nat → Int32) → (Nat → Int32) → (Nat → Int32) → (Nat → Int32) → (Nat → Int64) → (Nat → Int32) → Prop} {z : Nat} (hz : z < 14)
    (K : ∀ we', bq_SW (bq_ok c site code (-1) 0) (4 * (z + 1)) we' → J2 (nI (z + 1)) pa cd co ra up le wa we' sb) :
    ∀ r s n we, s + r = 4 → r < n → bq_SW (bq_ok c site code (-1) 0) (4 * z + s) we → wX_startWeights_10 post J2 (nI site) (nI z) (nI c) n (nI s) pa cd co ra up le wa we sb := by
  intro r
  induction r with
  | zero =>
    intro s n we hs hn h
    obtain ⟨n', rfl⟩ : ∃ n', n = n' + 1 := ⟨n - 1, by omega⟩
    refine pk_le 4 s (fun _ => nm_r (nI_1 z) (K we ?_)) (fun q => absurd q (by omega))
    rw [show 4 * (z + 1) = 4 * z + s by omega]
    exact h
  | succ r ih =>
    intro s n we hs hn h
    obtain ⟨n', rfl⟩ : ∃ n', n = n' + 1 := ⟨n - 1, by omega⟩
    have key := ih (s + 1) n' _ (by omega) (by omega) (bq_SW_s (by omega) h)
    rw [bq_ok_u (by omega)] at key
    refine pk_le 4 s (fun q => absurd q (by omega)) (fun _ => ?_)
    rw [bq_i4, nI_clamp (by omega)]
    refine bx_mayHave hc hC hz (by omega) hi (fun q => br_f (by decide) ⟨pk_in (4 * z + s) 56 (by omega), nm_e (nm_r (nI_1 s) ?_)⟩) (fun q => br_t rfl ⟨pk_in (4 * z + s) 56 (by omega), nm_e (nm_r (nI_1 s) ?_)⟩)
    · rw [q, if_pos rfl] at key
      exact key
    · rw [q, if_neg (by decide)] at key
      exact key
theorem bx_sw2 (hc : c ≤ 7) (hC : bq_CX c code cd) (hi : site < 4) {post : SX → Prop}
    (K : ∀ we', bq_SW (bq_ok c site code (-1) 0) 56 we' → post (nI c, pa, cd, co, ra, up, le, wa, we', sb)) :
    ∀ r z n we, z + r = 14 → r < n → bq_SW (bq_ok c site code (-1) 0) (4 * z) we → wX_startWeights_2 post (nI site) (nI c) n (nI z) pa cd co ra up le wa we sb := by
  intro r
  induction r with
  | zero =>
    intro z n we hz hn h
    obtain ⟨n', rfl⟩ : ∃ n', n = n' + 1 := ⟨n - 1, by omega⟩
    refine pk_le 14 z (fun _ => K we ?_) (fun q => absurd q (by omega))
    rw [show 56 = 4 * z by omega]
    exact h
  | succ r ih =>
    intro z n we hz hn h
    obtain ⟨n', rfl⟩ : ∃ n', n = n' + 1 := ⟨n - 1, by omega⟩
    refine pk_le 14 z (fun q => absurd q (by omega)) (fun _ => ⟨5, ?_⟩)
    exact bx_sw10 hc hC hi (by omega) (fun we' h' => ih (z + 1) n' we' (by omega) (by omega) h') 4 0 5 we rfl (by omega) h
theorem bx_cw22 {post : SX → Prop} {J11 : Int32 → (Nat → Int32) → (Nat → Int32) → (Nat → Int32) → (Nat → Int32) → (Nat → Int32) → (Nat → Int32) → (Nat → Int32) → (Nat → Int64) → (Nat → Int32) → Prop} {k p s : Nat} (hk : k < 14) (hp : p < 14) (hs : s < 4)
    (K : J11 (nI (s + 1)) pa cd co ra up le wa (vp_updL we (4 * p + s) (we (4 * p + s) * bq_s ra we (4 * s) (4 * k) 4)) sb) :
    ∀ r t n, t + r = 4 → r < n → wX_carryWeightsUp_22 post J11 (nI k) (nI (4 * p)) (nI s) (nI c) pa cd co ra up le wa we sb n (bq_s ra we (4 * s) (4 * k) t) (nI t) := by
  intro r
  induction r with
  | zero =>
    intro t n ht hn
    obtain ⟨n', rfl⟩ : ∃ n', n = n' + 1 := ⟨n - 1, by omega⟩
    obtain rfl : t = 4 := by omega
    refine br_t (by decide) ?_
    rw [nI_add, nI_clamp (by omega)]
    exact ⟨pk_in (4 * p + s) 56 (by omega), pk_in (4 * p + s) 56 (by omega), nm_e (nm_r (nI_1 s) K)⟩
  | succ r ih =>
    intro t n ht hn
    obtain ⟨n', rfl⟩ : ∃ n', n = n' + 1 := ⟨n - 1, by omega⟩
    have key := ih (t + 1) n' (by omega) (by omega)
    refine pk_le 4 t (fun q => absurd q (by omega)) (fun _ => ?_)
    rw [bq_i4, bq_i4, nI_clamp (by omega), nI_clamp (by omega)]
    exact ⟨pk_in (4 * s + t) 16 (by omega), pk_in (4 * k + t) 56 (by omega), nm_e (nm_r (nI_1 t) key)⟩
def bq_CW (ra : Nat → Int32) (we : Nat → Int64) (k p s : Nat) (we' : Nat → Int64) : Prop :=
  (∀ i, i < s → we' (4 * p + i) = we (4 * p + i) * bq_s ra we (4 * i) (4 * k) 4) ∧ (∀ w i, i < 4 → (w ≠ p ∨ s ≤ i) → we' (4 * w + i) = we (4 * w + i))
theorem bq_CW_s {k p s : Nat} {we' : Nat → Int64} (hkp : k ≠ p) (hs : s < 4) (h : bq_CW ra we k p s we') :
    bq_CW ra we k p (s + 1) (vp_updL we' (4 * p + s) (we' (4 * p + s) * bq_s ra we' (4 * s) (4 * k) 4)) := by
  have e1 : bq_s ra we' (4 * s) (4 * k) 4 = bq_s ra we (4 * s) (4 * k) 4 := bq_s_cg 4 (fun i hi => h.2 k i hi (Or.inl hkp))
  refine ⟨fun i hi => ?_, fun w i hi hw => ?_⟩
  · by_cases e : i = s
    · rw [e, pk_uLs, e1, h.2 p s hs (Or.inr (Nat.le_refl _))]
    · rw [pk_uLn (by omega)]
      exact h.1 i (by omega)
  · rw [pk_uLn (by omega)]
    exact h.2 w i hi (by omega)
theorem bx_cw11 {post : SX → Prop} {k p : Nat} (hk : k < 14) (hp : p < 14) (hkp : k ≠ p)
    (K : ∀ we', bq_CW ra we k p 4 we' → post (nI c, pa, cd, co, ra, up, le, wa, we', sb)) :
    ∀ r s n we', s + r = 4 → r < n → bq_CW ra we k p s we' → wX_carryWeightsUp_11 post (nI k) (nI (4 * p)) (nI c) n (nI s) pa cd co ra up le wa we' sb := by
  intro r
  induction r with
  | zero =>
    intro s n we' hs hn h
    obtain ⟨n', rfl⟩ : ∃ n', n = n' + 1 := ⟨n - 1, by omega⟩
    obtain rfl : s = 4 := by omega
    exact br_t (by decide) (K we' h)
  | succ r ih =>
    intro s n we' hs hn h
    obtain ⟨n', rfl⟩ : ∃ n', n = n' + 1 := ⟨n - 1, by omega⟩
    refine pk_le 4 s (fun q => absurd q (by omega)) (fun _ => ⟨5, ?_⟩)
    exact bx_cw22 hk hp (by omega) (ih (s + 1) n' _ (by omega) (by omega) (bq_CW_s hkp (by omega) h)) 4 0 5 rfl (by omega)
theorem bx_carryW (H : bq_T c top par on tw) (hP : bq_PA c top par pa) {k : Nat} (hk : bq_V c k) (kt : k ≠ top) {post : SX → Prop}
    (K : ∀ we', bq_CW ra we k (par k) 4 we' → post (nI c, pa, cd, co, ra, up, le, wa, we', sb)) : wpX_carryWeightsUp post (nI c, pa, cd, co, ra, up, le, wa, we, sb) (nI k) := by
  have k14 := bq_lt14 H hk
  have p14 := bq_lt14 H (bq_pv H hk kt)
  have kp : k ≠ par k := fun q => bq_par_nA H hk kt (by rw [← q]; exact bq_A_rf k)
  refine ⟨pk_in k 14 k14, nm_r (e' := nI (4 * par k)) ?_ ⟨5, ?_⟩⟩
  · rw [nI_clamp (by omega), hP k hk, bq_en_n kt, bq_k4]
  · exact bx_cw11 k14 p14 kp K 4 0 5 we rfl (by omega) ⟨fun i hi => absurd hi (by omega), fun _ _ _ _ => rfl⟩
/-- the sum of n longs -/
def bq_sL (we : Nat → Int64) (b : Nat) : Nat → Int64
  | 0 => 0
  | t + 1 => bq_sL we b t + we (b + t)
theorem bx_w58 {post : Int64 → SX → Prop} {tp : Nat} (htp : tp < 14) {lc : Int32} (K : post (bq_sL we (4 * tp) 4) (lc, pa, cd, co, ra, up, le, wa, we, sb)) :
    ∀ r j n, j + r = 4 → r < n → wX_weight_58 post (nI (4 * tp)) lc pa cd co ra up le wa we sb n (bq_sL we (4 * tp) j) (nI j) := by
  intro r
  induction r with
  | zero =>
    intro j n hj hn
    obtain ⟨n', rfl⟩ : ∃ n', n = n' + 1 := ⟨n - 1, by omega⟩
    obtain rfl : j = 4 := by omega
    exact br_t (by decide) K
  | succ r ih =>
    intro j n hj hn
    obtain ⟨n', rfl⟩ : ∃ n', n = n' + 1 := ⟨n - 1, by omega⟩
    have key := ih (j + 1) n' (by omega) (by omega)
    refine pk_le 4 j (fun q => absurd q (by omega)) (fun _ => ?_)
    rw [nI_add, nI_clamp (by omega)]
    exact ⟨pk_in (4 * tp + j) 56 (by omega), nm_e (nm_r (nI_1 j) key)⟩
theorem bx_w24 (H : bq_T c top par on tw) (hD : bq_D c top par d) (hP : bq_PA c top par pa) {ok : Nat → Nat → Bool} {post : Int64 → SX → Prop}
    (hu : ∀ j, j < m → up j = nI (g j)) (hG : bq_G c top d g m)
    (K : ∀ we', bq_XW c on tw ok ra we' → post (bq_sL we' (4 * top) 4) (nI c, pa, cd, co, ra, up, le, wa, we', sb)) :
    ∀ r i n we, i + r = m → r < n → bq_XK c on tw ok ra g i we → wX_weight_24 post (nI m) n (nI i) (nI c) pa cd co ra up le wa we sb := by
  have m13 := hG.2.2.2
  intro r
  induction r with
  | zero =>
    intro i n we hi hn h
    obtain ⟨n', rfl⟩ : ∃ n', n = n' + 1 := ⟨n - 1, by omega⟩
    obtain rfl : i = m := by omega
    have t14 := bq_lt14 H (bq_vt H)
    refine br_t (nI_le (Nat.le_refl _) (by omega)) (bx_root H hP (nm_r (bq_k4 top) ⟨5, ?_⟩))
    exact bx_w58 t14 (K we (bq_XK_m H hG h)) 4 0 5 rfl (by omega)
  | succ r ih =>
    intro i n we hi hn h
    obtain ⟨n', rfl⟩ : ∃ n', n = n' + 1 := ⟨n - 1, by omega⟩
    refine pk_le m i (fun q => absurd q (by omega)) (fun _ => ⟨pk_in i 14 (by omega), ?_⟩)
    rw [nI_clamp (by omega), hu i (by omega)]
    obtain ⟨vk, kt⟩ := hG.1 i (by omega)
    refine bx_carryW H hP vk kt (fun we' h' => ?_)
    refine nm_r (nI_1 i) (ih (i + 1) n' we' (by omega) (by omega) ?_)
    exact bq_XK_s H hD hG (by omega) h (fun s hs => h'.1 s hs) (fun z s hs hz => h'.2 z s hs (Or.inl hz))
theorem bx_weight (H : bq_T c top par on tw) (hP : bq_PA c top par pa) (hC : bq_CX c code cd) {x : Int32} {post : Int64 → SX → Prop}
    (K0 : (∀ k, k < 4 → x ≠ nI k) → post (-1) (nI c, pa, cd, co, ra, up, le, wa, we, sb))
    (K : ∀ site, site < 4 → x = nI site → ∀ up' we', bq_XW c on tw (bq_ok c site code (-1) 0) ra we' → post (bq_sL we' (4 * top) 4) (nI c, pa, cd, co, ra, up', le, wa, we', sb)) : wpX_weight post (nI c, pa, cd, co, ra, up, le, wa, we, sb) x := by
  obtain ⟨d, hD⟩ := bq_ex H
  have c7 := bq_c7 H
  unfold wpX_weight
  dsimp only
  refine bx_isSite x (fun site hi e => br_f (by decide) ?_) (fun hn => br_t rfl (K0 hn))
  rw [e]
  refine ⟨15, bx_sw2 c7 hC hi (fun we1 h1 => ?_) 14 0 15 we rfl (by omega) (fun z s _ h => absurd h (by omega))⟩
  refine bx_list H hD hP (fun m up' g hu hG => ?_)
  refine ⟨m + 1, bx_w24 H hD hP hu hG (fun we' h => K site hi e up' we' h) m 0 (m + 1) we1 (by omega) (by omega) ?_⟩
  refine bq_XK_0 (fun z hz s hs => h1 z s hs ?_)
  have := bq_lt14 H hz
  omega
end
end
section
/-! the reference's walks: branch, settle, work, bottom -/
section
variable {c top site m : Nat} {par on tw d code g : Nat → Nat} {ow ab o t co ra lo mn ot : Nat → Int32} {su : Nat → Int64} {pin ps ct tp : Int32}
theorem by_may {post : Int32 → Prop} (hc : c ≤ 7) (hC : bq_CY c code ow) {z s : Nat} (hz : bq_V c z) (hs : s < 4) (hi : site < 4)
    (h1 : bq_ok c site code pin ps z s = true → post 1) (h0 : bq_ok c site code pin ps z s = false → post 0) :
    wpY_may post (ct, tp, ow, ab, o, t, co, ra, lo, mn, su, ot) (nI z) (nI s) (nI site) pin ps := by
  have z14 := bq_V14 hc hz
  have M : (decide (nI z ≠ pin) || decide (nI s = ps)) = true → wY_may_14 post (nI z) (nI s) (nI site) ct tp ow ab o t co ra lo mn su ot := by
    intro hp
    rw [bq_ok, hp, Bool.true_and] at h1 h0
    unfold wY_may_14
    refine pk_lt 6 z (fun q => h1 ?_) (fun q => ?_)
    · rw [decide_eq_true (show c ≤ z by rcases hz with r | r <;> omega), Bool.true_or]
    · have hl : z < c := by rcases hz with r | r <;> omega
      have b := bq_dg_lt (code z) site
      rw [bq_j4, nI_clamp (by omega), hC z hl site hi]
      refine ⟨pk_in (4 * z + site) 28 (by omega), ?_⟩
      rw [decide_eq_false (show ¬ c ≤ z by omega), Bool.false_or] at h1 h0
      exact pk_eq (bq_dg (code z) site) s (fun q => h1 (decide_eq_true q)) (fun q => h0 (decide_eq_false q))
  unfold wpY_may
  dsimp only
  refine br_c (fun e1 => br_c (fun e2 => M ?_) (fun e2 => h0 ?_)) (fun e1 => M ?_)
  · rw [decide_eq_true e2, Bool.or_true]
  · rw [bq_ok, decide_eq_false (fun q => q e1), decide_eq_false e2]
    rfl
  · rw [decide_eq_true e1, Bool.true_or]
theorem by_br14 {post : Int64 → Prop} {k s : Nat} {x3 : Int32} (hk : k < 14) (hs : s < 4)
    (K : (x3 = 0 → post (bq_l 1000 co lo (4 * s) (4 * k) 4).toInt64) ∧ (¬ x3 = 0 → ((x3 = 1 → post (bq_w 1000 co lo mn (4 * s) (4 * k) 4).toInt64) ∧ (¬ x3 = 1 → post (bq_s ra su (4 * s) (4 * k) 4))))) :
    ∀ r j n, j + r = 4 → r < n → wY_branch_14 post (nI k) (nI s) x3 ct tp ow ab o t co ra lo mn su ot n (bq_l 1000 co lo (4 * s) (4 * k) j) (bq_w 1000 co lo mn (4 * s) (4 * k) j) (bq_s ra su (4 * s) (4 * k) j) (nI j) := by
  intro r
  induction r with
  | zero =>
    intro j n hj hn
    obtain ⟨n', rfl⟩ : ∃ n', n = n' + 1 := ⟨n - 1, by omega⟩
    obtain rfl : j = 4 := by omega
    exact br_t (by decide) K
  | succ r ih =>
    intro j n hj hn
    obtain ⟨n', rfl⟩ : ∃ n', n = n' + 1 := ⟨n - 1, by omega⟩
    have key := ih (j + 1) n' (by omega) (by omega)
    refine pk_le 4 j (fun q => absurd q (by omega)) (fun _ => ?_)
    rw [bq_j4, bq_j4, nI_clamp (by omega), nI_clamp (by omega)]
    refine ⟨pk_in (4 * s + j) 16 (by omega), pk_in (4 * k + j) 64 (by omega), nm_e ?_⟩
    have F : ∀ L W, wY_branch_14 post (nI k) (nI s) x3 ct tp ow ab o t co ra lo mn su ot n' L W (bq_s ra su (4 * s) (4 * k) (j + 1)) (nI (j + 1)) →
        wY_branch_82 post (wY_branch_14 post (nI k) (nI s) x3 ct tp ow ab o t co ra lo mn su ot n') (nI k) (nI s) x3 L W (bq_s ra su (4 * s) (4 * k) j) (nI j) ct tp ow ab o t co ra lo mn su ot := by
      intro L W q
      unfold wY_branch_82
      rw [bq_j4, bq_j4, nI_clamp (by omega), nI_clamp (by omega)]
      exact ⟨pk_in (4 * s + j) 16 (by omega), pk_in (4 * k + j) 64 (by omega), nm_e (nm_r (nI_1 j) q)⟩
    refine br_c (fun h => ?_) (fun h => ?_)
    · unfold wY_branch_59
      rw [bq_j4, nI_clamp (by omega)]
      rw [bq_l_1 h] at key
      refine br_c (fun e => ⟨pk_in (4 * k + j) 64 (by omega), nm_e (F _ _ ?_)⟩) (fun e => F _ _ ?_)
      · rw [bq_w_1 h e] at key
        exact key
      · rw [bq_w_2 h e] at key
        exact key
    · unfold wY_branch_59
      rw [bq_j4, nI_clamp (by omega)]
      rw [bq_l_2 h, bq_w_3 h] at key
      exact br_t rfl ⟨pk_in (4 * k + j) 64 (by omega), nm_e (F _ _ key)⟩
theorem by_br0 {post : Int64 → Prop} {k s : Nat} (hk : k < 14) (hs : s < 4) (K : post (bq_l 1000 co lo (4 * s) (4 * k) 4).toInt64) : wpY_branch post (ct, tp, ow, ab, o, t, co, ra, lo, mn, su, ot) (nI k) (nI s) 0 :=
  ⟨5, by_br14 hk hs (br_t rfl K) 4 0 5 rfl (by omega)⟩
theorem by_br1 {post : Int64 → Prop} {k s : Nat} (hk : k < 14) (hs : s < 4) (K : post (bq_w 1000 co lo mn (4 * s) (4 * k) 4).toInt64) : wpY_branch post (ct, tp, ow, ab, o, t, co, ra, lo, mn, su, ot) (nI k) (nI s) 1 :=
  ⟨5, by_br14 hk hs (br_f (by decide) (br_t rfl K)) 4 0 5 rfl (by omega)⟩
theorem by_br2 {post : Int64 → Prop} {k s : Nat} (hk : k < 14) (hs : s < 4) (K : post (bq_s ra su (4 * s) (4 * k) 4)) : wpY_branch post (ct, tp, ow, ab, o, t, co, ra, lo, mn, su, ot) (nI k) (nI s) 2 :=
  ⟨5, by_br14 hk hs (br_f (by decide) (br_f (by decide) K)) 4 0 5 rfl (by omega)⟩
/-- the values that settle stores at node z, state s -/
def bq_vl (on tw : Nat → Nat) (co lo : Nat → Int32) (b : Bool) (z s : Nat) : Int32 := if z < 8 then (if b = true then 0 else 1000) else bq_cap b (bq_l 1000 co lo (4 * s) (4 * on z) 4) (bq_l 1000 co lo (4 * s) (4 * tw z) 4)
def bq_vm (on tw : Nat → Nat) (co lo mn : Nat → Int32) (b : Bool) (z s : Nat) : Int32 := if z < 8 then (if b = true then 1 else 0) else bq_mny b (bq_w 1000 co lo mn (4 * s) (4 * on z) 4) (bq_w 1000 co lo mn (4 * s) (4 * tw z) 4)
def bq_vs (on tw : Nat → Nat) (ra : Nat → Int32) (su : Nat → Int64) (b : Bool) (z s : Nat) : Int64 := if z < 8 then (if b = true then 1 else 0) else (if b = true then 1 else 0) * bq_s ra su (4 * s) (4 * on z) 4 * bq_s ra su (4 * s) (4 * tw z) 4
theorem by_st162 {post : SY → Prop} {J3 : Int32 → (Nat → Int32) → (Nat → Int32) → (Nat → Int32) → (Nat → Int32) → (Nat → Int32) → (Nat → Int32) → (Nat → Int32) → (Nat → Int32) → (Nat → Int64) → (Nat → Int32) → Prop} {z s : Nat} {x2 x3 x4 : Int32} {C W S : Int64} (hz : z < 14) (hs : s < 4)
    (K : J3 (nI (s + 1)) ow ab o t co ra (upd lo (4 * z + s) (if 1000 < C then 1000 else C.toInt32)) (upd mn (4 * z + s) W.toInt32) (vp_updL su (4 * z + s) S) ot) :
    wY_settle_162 post J3 (nI z) x2 x3 x4 (nI s) C W S ct tp ow ab o t co ra lo mn su ot := by
  have G : ∀ v, v = (if 1000 < C then 1000 else C.toInt32) → wY_settle_190 post J3 (nI z) x2 x3 x4 (nI s) W S v ((4 * nI z) + nI s) ct tp ow ab o t co ra lo mn su ot := by
    intro v hv
    unfold wY_settle_190
    rw [bq_j4, nI_clamp (by omega), hv]
    exact ⟨pk_in (4 * z + s) 64 (by omega), nm_e ⟨pk_in (4 * z + s) 64 (by omega), nm_e ⟨pk_in (4 * z + s) 64 (by omega), nm_e (nm_r (nI_1 s) K)⟩⟩⟩
  unfold wY_settle_162
  exact br_c (fun h => G _ (if_neg (Int64.not_lt.mpr h)).symm) (fun h => G _ (if_pos (Int64.not_le.mp h)).symm)
theorem by_st58 (H : bq_T c top par on tw) (hPC : bq_PC c on tw o t) {post : SY → Prop} {J3 : Int32 → (Nat → Int32) → (Nat → Int32) → (Nat → Int32) → (Nat → Int32) → (Nat → Int32) → (Nat → Int32) → (Nat → Int32) → (Nat → Int32) → (Nat → Int64) → (Nat → Int32) → Prop} {z s : Nat} {x2 x3 x4 : Int32} (b : Bool) (hz : bq_V c z) (hs : s < 4)
    (K : J3 (nI (s + 1)) ow ab o t co ra (upd lo (4 * z + s) (bq_vl on tw co lo b z s)) (upd mn (4 * z + s) (bq_vm on tw co lo mn b z s)) (vp_updL su (4 * z + s) (bq_vs on tw ra su b z s)) ot) :
    wY_settle_58 post J3 (nI z) x2 x3 x4 (nI s) (if b = true then 0 else 1000) (if b = true then 1 else 0) (if b = true then 1 else 0) ct tp ow ab o t co ra lo mn su ot := by
  have z14 := bq_lt14 H hz
  unfold wY_settle_58
  refine pk_le z 7 (fun h => ?_) (fun h => ?_)
  · have h8 : z < 8 := by omega
    rw [bq_vl, bq_vm, bq_vs, if_pos h8, if_pos h8, if_pos h8] at K
    refine by_st162 z14 hs ?_
    cases b
    · exact K
    · exact K
  · have h8 : 8 ≤ z := by omega
    have h7 := bq_v7 H hz h8
    rw [bq_vl, bq_vm, bq_vs, if_neg (show ¬ z < 8 by omega), if_neg (show ¬ z < 8 by omega), if_neg (show ¬ z < 8 by omega)] at K
    have n14 := bq_lt14 H (bq_on H h8 h7).1
    have w14 := bq_lt14 H (bq_tw H h8 h7).1
    have zi : vp_in (nI z) 16 := pk_in z 16 (by omega)
    rw [nI_clamp (by omega), (hPC z h8 h7).1, (hPC z h8 h7).2]
    refine ⟨zi, by_br0 n14 hs ⟨zi, by_br0 w14 hs (nm_e ⟨zi, by_br1 n14 hs ⟨zi, by_br1 w14 hs (nm_e ⟨zi, by_br2 n14 hs ⟨zi, by_br2 w14 hs (nm_e ?_)⟩⟩)⟩⟩)⟩⟩
    exact by_st162 z14 hs K
/-- node z settled up to state s -/
def bq_SI (on tw : Nat → Nat) (ok : Nat → Nat → Bool) (co ra lo mn : Nat → Int32) (su : Nat → Int64) (z s : Nat) (lo' mn' : Nat → Int32) (su' : Nat → Int64) : Prop :=
  (∀ i, i < s → lo' (4 * z + i) = bq_vl on tw co lo (ok z i) z i ∧ mn' (4 * z + i) = bq_vm on tw co lo mn (ok z i) z i ∧ su' (4 * z + i) = bq_vs on tw ra su (ok z i) z i) ∧
  (∀ w i, i < 4 → (w ≠ z ∨ s ≤ i) → lo' (4 * w + i) = lo (4 * w + i) ∧ mn' (4 * w + i) = mn (4 * w + i) ∧ su' (4 * w + i) = su (4 * w + i))
theorem bq_SI_s (H : bq_T c top par on tw) {ok : Nat → Nat → Bool} {z s : Nat} {lo' mn' : Nat → Int32} {su' : Nat → Int64} (hz : bq_V c z) (hs : s < 4) (h : bq_SI on tw ok co ra lo mn su z s lo' mn' su') :
    bq_SI on tw ok co ra lo mn su z (s + 1) (upd lo' (4 * z + s) (bq_vl on tw co lo' (ok z s) z s)) (upd mn' (4 * z + s) (bq_vm on tw co lo' mn' (ok z s) z s)) (vp_updL su' (4 * z + s) (bq_vs on tw ra su' (ok z s) z s)) := by
  have e : bq_vl on tw co lo' (ok z s) z s = bq_vl on tw co lo (ok z s) z s ∧ bq_vm on tw co lo' mn' (ok z s) z s = bq_vm on tw co lo mn (ok z s) z s ∧ bq_vs on tw ra su' (ok z s) z s = bq_vs on tw ra su (ok z s) z s := by
    rw [bq_vl, bq_vl, bq_vm, bq_vm, bq_vs, bq_vs]
    by_cases h8 : z < 8
    · rw [if_pos h8, if_pos h8, if_pos h8, if_pos h8, if_pos h8, if_pos h8]
      exact ⟨rfl, rfl, rfl⟩
    · rw [if_neg h8, if_neg h8, if_neg h8, if_neg h8, if_neg h8, if_neg h8]
      obtain ⟨n1, n2⟩ := bq_kne H hz (by omega)
      have k1 := fun i hi => h.2 (on z) i hi (Or.inl n1)
      have k2 := fun i hi => h.2 (tw z) i hi (Or.inl n2)
      rw [bq_l_cg (lo := lo') (lo' := lo) (b := 4 * on z) (b' := 4 * on z) 4 (fun i hi => (k1 i hi).1), bq_l_cg (lo := lo') (lo' := lo) (b := 4 * tw z) (b' := 4 * tw z) 4 (fun i hi => (k2 i hi).1),
        bq_w_cg (lo := lo') (lo' := lo) (mn := mn') (mn' := mn) (b := 4 * on z) (b' := 4 * on z) 4 (fun i hi => (k1 i hi).1) (fun i hi => (k1 i hi).2.1),
        bq_w_cg (lo := lo') (lo' := lo) (mn := mn') (mn' := mn) (b := 4 * tw z) (b' := 4 * tw z) 4 (fun i hi => (k2 i hi).1) (fun i hi => (k2 i hi).2.1),
        bq_s_cg (su := su') (su' := su) (b := 4 * on z) (b' := 4 * on z) 4 (fun i hi => (k1 i hi).2.2), bq_s_cg (su := su') (su' := su) (b := 4 * tw z) (b' := 4 * tw z) 4 (fun i hi => (k2 i hi).2.2)]
      exact ⟨rfl, rfl, rfl⟩
  rw [e.1, e.2.1, e.2.2]
  refine ⟨fun i hi => ?_, fun w i hi hw => ?_⟩
  · by_cases q : i = s
    · rw [q, pk_us, pk_us, pk_uLs]
      exact ⟨rfl, rfl, rfl⟩
    · rw [pk_un (by omega), pk_un (by omega), pk_uLn (by omega)]
      exact h.1 i (by omega)
  · rw [pk_un (by omega), pk_un (by omega), pk_uLn (by omega)]
    exact h.2 w i hi (by omega)
theorem bq_SI_ST {ok : Nat → Nat → Bool} {z : Nat} {lo' mn' : Nat → Int32} {su' : Nat → Int64} (h : bq_SI on tw ok co ra lo mn su z 4 lo' mn' su') : bq_ST on tw ok co ra lo mn su z lo' mn' su' := by
  refine ⟨fun s hs => ⟨fun h8 => ?_, fun h8 => ?_⟩, fun w s hs hw => h.2 w s hs (Or.inl hw)⟩
  · have := h.1 s hs
    rw [bq_vl, bq_vm, bq_vs, if_pos h8, if_pos h8, if_pos h8] at this
    exact this
  · have := h.1 s hs
    rw [bq_vl, bq_vm, bq_vs, if_neg (show ¬ z < 8 by omega), if_neg (show ¬ z < 8 by omega), if_neg (show ¬ z < 8 by omega)] at this
    exact this
theorem by_st3 (H : bq_T c top par on tw) (hPC : bq_PC c on tw o t) (hC : bq_CY c code ow) (hi : site < 4) {post : SY → Prop} {z : Nat} (hz : bq_V c z)
    (K : ∀ lo' mn' su', bq_SI on tw (bq_ok c site code pin ps) co ra lo mn su z 4 lo' mn' su' → post (ct, tp, ow, ab, o, t, co, ra, lo', mn', su', ot)) :
    ∀ r s n lo' mn' su', s + r = 4 → r < n → bq_SI on tw (bq_ok c site code pin ps) co ra lo mn su z s lo' mn' su' → wY_settle_3 post (nI z) (nI site) pin ps ct tp n (nI s) ow ab o t co ra lo' mn' su' ot := by
  intro r
  induction r with
  | zero =>
    intro s n lo' mn' su' hs hn h
    obtain ⟨n', rfl⟩ : ∃ n', n = n' + 1 := ⟨n - 1, by omega⟩
    obtain rfl : s = 4 := by omega
    exact br_t (by decide) (K lo' mn' su' h)
  | succ r ih =>
    intro s n lo' mn' su' hs hn h
    obtain ⟨n', rfl⟩ : ∃ n', n = n' + 1 := ⟨n - 1, by omega⟩
    have key := ih (s + 1) n' _ _ _ (by omega) (by omega) (bq_SI_s H hz (by omega) h)
    have L := by_st58 (ct := ct) (tp := tp) (post := post) (x2 := nI site) (x3 := pin) (x4 := ps) H hPC (bq_ok c site code pin ps z s) hz (by omega) key
    refine pk_le 4 s (fun q => absurd q (by omega)) (fun _ => ?_)
    refine by_may (bq_c7 H) hC hz (by omega) hi (fun e => br_f (by decide) ?_) (fun e => br_t rfl ?_)
    · unfold wY_settle_34 wY_settle_46
      rw [e, if_pos rfl, if_pos rfl] at L
      exact br_f (by decide) (br_f (by decide) L)
    · unfold wY_settle_34 wY_settle_46
      rw [e, if_neg (by decide), if_neg (by decide)] at L
      exact br_t rfl (br_t rfl L)
theorem by_settle (H : bq_T c top par on tw) (hPC : bq_PC c on tw o t) (hC : bq_CY c code ow) (hi : site < 4) {post : SY → Prop} {z : Nat} (hz : bq_V c z)
    (K : ∀ lo' mn' su', bq_ST on tw (bq_ok c site code pin ps) co ra lo mn su z lo' mn' su' → post (ct, tp, ow, ab, o, t, co, ra, lo', mn', su', ot)) : wpY_settle post (ct, tp, ow, ab, o, t, co, ra, lo, mn, su, ot) (nI z) (nI site) pin ps :=
  ⟨5, by_st3 H hPC hC hi hz (fun lo' mn' su' h => K lo' mn' su' (bq_SI_ST h)) 4 0 5 lo mn su rfl (by omega) ⟨fun i hi => absurd hi (by omega), fun _ _ _ _ => ⟨rfl, rfl, rfl⟩⟩⟩
theorem by_wk13 (H : bq_T c top par on tw) (hD : bq_D c top par d) (hPC : bq_PC c on tw o t) (hC : bq_CY c code ow) (hi : site < 4) {post : SY → Prop} {J3 : Int32 → Int32 → Int32 → (Nat → Int32) → (Nat → Int32) → (Nat → Int32) → (Nat → Int32) → (Nat → Int32) → (Nat → Int32) → (Nat → Int32) → (Nat → Int32) → (Nat → Int64) → (Nat → Int32) → Prop} {rd d0 : Nat}
    (K : ∀ lo' mn' su', bq_YD c d on tw (bq_ok c site code pin ps) co ra d0 14 lo' mn' su' → J3 (nI (rd + 1)) (nI c) tp ow ab o t co ra lo' mn' su' ot) :
    ∀ r j n lo mn su, j + r = 14 → r < n → bq_YD c d on tw (bq_ok c site code pin ps) co ra d0 j lo mn su → wY_work_13 post J3 (nI site) pin ps (nI rd) n (nI j) (nI c) tp ow ab o t co ra lo mn su ot := by
  intro r
  induction r with
  | zero =>
    intro j n lo mn su hj hn h
    obtain ⟨n', rfl⟩ : ∃ n', n = n' + 1 := ⟨n - 1, by omega⟩
    obtain rfl : j = 14 := by omega
    exact br_t (by decide) (nm_r (nI_1 rd) (K lo mn su h))
  | succ r ih =>
    intro j n lo mn su hj hn h
    obtain ⟨n', rfl⟩ : ∃ n', n = n' + 1 := ⟨n - 1, by omega⟩
    have c7 := bq_c7 H
    refine pk_le 14 j (fun q => absurd q (by omega)) (fun _ => ?_)
    by_cases hv : bq_V c j
    · refine by_bad_y c7 hv (br_t rfl (by_settle H hPC hC hi hv (fun lo' mn' su' h' => ?_)))
      exact nm_r (nI_1 j) (ih (j + 1) n' lo' mn' su' (by omega) (by omega) (bq_YD_s H hD hv h h'))
    · refine by_bad_n c7 hv (by omega) (br_f (by decide) ?_)
      exact nm_r (nI_1 j) (ih (j + 1) n' lo mn su (by omega) (by omega) (bq_YD_n hv h))
theorem by_wk3 (H : bq_T c top par on tw) (hD : bq_D c top par d) (hPC : bq_PC c on tw o t) (hC : bq_CY c code ow) (hi : site < 4) {post : SY → Prop}
    (K : ∀ lo' mn' su', bq_YS c on tw (bq_ok c site code pin ps) co ra lo' mn' su' → post (nI c, tp, ow, ab, o, t, co, ra, lo', mn', su', ot)) :
    ∀ r rd n lo mn su, rd + r = 7 → r < n → bq_YD c d on tw (bq_ok c site code pin ps) co ra r 0 lo mn su → wY_work_3 post (nI site) pin ps n (nI rd) (nI c) tp ow ab o t co ra lo mn su ot := by
  intro r
  induction r with
  | zero =>
    intro rd n lo mn su hj hn h
    obtain ⟨n', rfl⟩ : ∃ n', n = n' + 1 := ⟨n - 1, by omega⟩
    obtain rfl : rd = 7 := by omega
    exact br_t (by decide) (K lo mn su (bq_YD_0 h))
  | succ r ih =>
    intro rd n lo mn su hj hn h
    obtain ⟨n', rfl⟩ : ∃ n', n = n' + 1 := ⟨n - 1, by omega⟩
    refine pk_le 7 rd (fun q => absurd q (by omega)) (fun _ => ⟨15, ?_⟩)
    exact by_wk13 H hD hPC hC hi (fun lo' mn' su' h' => ih (rd + 1) n' lo' mn' su' (by omega) (by omega) (bq_YD_r H h')) 14 0 15 lo mn su rfl (by omega) h
theorem by_work (H : bq_T c top par on tw) (hPC : bq_PC c on tw o t) (hC : bq_CY c code ow) (hi : site < 4) {post : SY → Prop}
    (K : ∀ lo' mn' su', bq_YS c on tw (bq_ok c site code pin ps) co ra lo' mn' su' → post (nI c, tp, ow, ab, o, t, co, ra, lo', mn', su', ot)) : wpY_work post (nI c, tp, ow, ab, o, t, co, ra, lo, mn, su, ot) (nI site) pin ps := by
  obtain ⟨d, hD⟩ := bq_ex H
  exact ⟨8, by_wk3 H hD hPC hC hi K 7 0 8 lo mn su rfl (by omega) (bq_YD_7 hD)⟩
theorem by_bot6 {post : Int32 → Prop} {tpn : Nat} (htp : tpn < 14) (K : post (bq_m4 1000 lo (4 * tpn) 4)) :
    ∀ r j n, j + r = 4 → r < n → wY_bottom_6 post ct (nI tpn) ow ab o t co ra lo mn su ot n (bq_m4 1000 lo (4 * tpn) j) (nI j) := by
  intro r
  induction r with
  | zero =>
    intro j n hj hn
    obtain ⟨n', rfl⟩ : ∃ n', n = n' + 1 := ⟨n - 1, by omega⟩
    obtain rfl : j = 4 := by omega
    exact br_t (by decide) K
  | succ r ih =>
    intro j n hj hn
    obtain ⟨n', rfl⟩ : ∃ n', n = n' + 1 := ⟨n - 1, by omega⟩
    have key := ih (j + 1) n' (by omega) (by omega)
    refine pk_le 4 j (fun q => absurd q (by omega)) (fun _ => ?_)
    rw [bq_j4, nI_clamp (by omega)]
    refine ⟨pk_in (4 * tpn + j) 64 (by omega), ?_⟩
    refine br_c (fun h => nm_r (nI_1 j) ?_) (fun h => ⟨pk_in (4 * tpn + j) 64 (by omega), nm_e (nm_r (nI_1 j) ?_)⟩)
    · rw [show bq_m4 1000 lo (4 * tpn) (j + 1) = bq_m4 1000 lo (4 * tpn) j from if_neg (Int32.not_lt.mpr h)] at key
      exact key
    · rw [show bq_m4 1000 lo (4 * tpn) (j + 1) = lo (4 * tpn + j) from if_pos (Int32.not_le.mp h)] at key
      exact key
theorem by_bottom {post : Int32 → Prop} {tpn : Nat} (htp : tpn < 14) (K : post (bq_m4 1000 lo (4 * tpn) 4)) : wpY_bottom post (ct, nI tpn, ow, ab, o, t, co, ra, lo, mn, su, ot) :=
  ⟨5, by_bot6 htp K 4 0 5 rfl (by omega)⟩
theorem by_cheap (H : bq_T c top par on tw) (hPC : bq_PC c on tw o t) (hC : bq_CY c code ow) (hi : site < 4) {post : Int32 → SY → Prop}
    (K : ∀ lo' mn' su', bq_YS c on tw (bq_ok c site code (-1) 0) co ra lo' mn' su' → post (bq_m4 1000 lo' (4 * top) 4) (nI c, nI top, ow, ab, o, t, co, ra, lo', mn', su', ot)) : wpY_cheapest post (nI c, nI top, ow, ab, o, t, co, ra, lo, mn, su, ot) (nI site) := by
  unfold wpY_cheapest
  dsimp only
  exact by_work H hPC hC hi (fun lo' mn' su' h => by_bottom (bq_lt14 H (bq_vt H)) (K lo' mn' su' h))
theorem by_sum (H : bq_T c top par on tw) (hPC : bq_PC c on tw o t) (hC : bq_CY c code ow) {post : Int32 → SY → Prop}
    (K : ∀ r0 r1 r2 r3 lo' mn' su', (∃ lo mn su, bq_YS c on tw (bq_ok c 0 code (-1) 0) co ra lo mn su ∧ r0 = bq_m4 1000 lo (4 * top) 4) →
      (∃ lo mn su, bq_YS c on tw (bq_ok c 1 code (-1) 0) co ra lo mn su ∧ r1 = bq_m4 1000 lo (4 * top) 4) →
      (∃ lo mn su, bq_YS c on tw (bq_ok c 2 code (-1) 0) co ra lo mn su ∧ r2 = bq_m4 1000 lo (4 * top) 4) →
      (∃ lo mn su, bq_YS c on tw (bq_ok c 3 code (-1) 0) co ra lo mn su ∧ r3 = bq_m4 1000 lo (4 * top) 4) → post (r0 + r1 + r2 + r3) (nI c, nI top, ow, ab, o, t, co, ra, lo', mn', su', ot)) : wpY_sumOfAll post (nI c, nI top, ow, ab, o, t, co, ra, lo, mn, su, ot) := by
  unfold wpY_sumOfAll
  dsimp only
  refine by_cheap (site := 0) H hPC hC (by omega) (fun lo0 mn0 su0 h0 => ?_)
  refine by_cheap (site := 1) H hPC hC (by omega) (fun lo1 mn1 su1 h1 => ?_)
  refine by_cheap (site := 2) H hPC hC (by omega) (fun lo2 mn2 su2 h2 => ?_)
  refine by_cheap (site := 3) H hPC hC (by omega) (fun lo3 mn3 su3 h3 => ?_)
  exact K _ _ _ _ lo3 mn3 su3 ⟨lo0, mn0, su0, h0, rfl⟩ ⟨lo1, mn1, su1, h1, rfl⟩ ⟨lo2, mn2, su2, h2, rfl⟩ ⟨lo3, mn3, su3, h3, rfl⟩
end
end
section
/-! the relation, and the methods that only look at the tree -/
def i_Rel (_ : Nat) (u : SX) (v : SY) : Prop :=
  ∃ (c top : Nat) (par on tw code : Nat → Nat) (pa cd co ra up le wa : Nat → Int32) (we : Nat → Int64) (sb ow ab o t lo mn : Nat → Int32) (su : Nat → Int64) (ot : Nat → Int32),
    u = (nI c, pa, cd, co, ra, up, le, wa, we, sb) ∧ v = (nI c, nI top, ow, ab, o, t, co, ra, lo, mn, su, ot) ∧ bq_T c top par on tw ∧ bq_PA c top par pa ∧ bq_CX c code cd ∧ bq_PA c top par ab ∧ bq_PC c on tw o t ∧ bq_CY c code ow ∧ (∀ i, i < 16 → ∃ k, k ≤ 9 ∧ co i = nI k)
section
variable {k c top : Nat} {par on tw code : Nat → Nat} {pa cd co ra up le wa : Nat → Int32} {we : Nat → Int64} {sb ow ab o t lo mn : Nat → Int32} {su : Nat → Int64} {ot : Nat → Int32}
theorem bq_mkR (H : bq_T c top par on tw) (hP : bq_PA c top par pa) (hC : bq_CX c code cd) (hQ : bq_PA c top par ab) (hPC : bq_PC c on tw o t) (hY : bq_CY c code ow) (hco : ∀ i, i < 16 → ∃ k, k ≤ 9 ∧ co i = nI k) : i_Rel k (nI c, pa, cd, co, ra, up, le, wa, we, sb) (nI c, nI top, ow, ab, o, t, co, ra, lo, mn, su, ot) :=
  ⟨c, top, par, on, tw, code, pa, cd, co, ra, up, le, wa, we, sb, ow, ab, o, t, lo, mn, su, ot, rfl, rfl, H, hP, hC, hQ, hPC, hY, hco⟩
end
theorem i_up {k : Nat} {u : SX} {v : SY} (h : i_Rel k u v) : i_Rel (k + 4) u v := h
theorem i_vc_leaves {k : Nat} {u : SX} {v : SY} (I : i_Rel k u v) (hk : k + 4 ≤ 2049) : wpX_leaves (fun r => wpY_leaves (fun r' => r' = r ∧ i_Rel (k + 4) u v) v) u := by
  have I' : i_Rel (k + 4) u v := I
  obtain ⟨c, top, par, on, tw, code, pa, cd, co, ra, up, le, wa, we, sb, ow, ab, o, t, lo, mn, su, ot, rfl, rfl, H, hP, hC, hQ, hPC, hY, hco⟩ := I
  exact ⟨rfl, I'⟩
theorem i_vc_root {k : Nat} {u : SX} {v : SY} (I : i_Rel k u v) (hk : k + 4 ≤ 2049) : wpX_root (fun r => wpY_root (fun r' => r' = r ∧ i_Rel (k + 4) u v) v) u := by
  have I' : i_Rel (k + 4) u v := I
  obtain ⟨c, top, par, on, tw, code, pa, cd, co, ra, up, le, wa, we, sb, ow, ab, o, t, lo, mn, su, ot, rfl, rfl, H, hP, hC, hQ, hPC, hY, hco⟩ := I
  exact bx_root H hP ⟨rfl, I'⟩
theorem i_vc_parent {k : Nat} {u : SX} {v : SY} (I : i_Rel k u v) (hk : k + 4 ≤ 2049) (v1 : Int32) : wpX_parent (fun r => wpY_parent (fun r' => r' = r ∧ i_Rel (k + 4) u v) v v1) u v1 := by
  have I' : i_Rel (k + 4) u v := I
  obtain ⟨c, top, par, on, tw, code, pa, cd, co, ra, up, le, wa, we, sb, ow, ab, o, t, lo, mn, su, ot, rfl, rfl, H, hP, hC, hQ, hPC, hY, hco⟩ := I
  have c7 := bq_c7 H
  unfold wpX_parent wpY_parent
  dsimp only
  refine bx_isNode c7 v1 (fun z hz e => br_f (by decide) ?_) (fun hn => br_t rfl ?_)
  · have z14 := bq_lt14 H hz
    have t14 := bq_lt14 H (bq_vt H)
    rw [e, nI_clamp (by omega), hP z hz]
    refine ⟨pk_in z 14 z14, ?_⟩
    by_cases et : z = top
    · refine br_t (by rw [et, bq_en_t]) (by_bad_y c7 hz (br_t rfl (br_t (by rw [et]) ⟨rfl, I'⟩)))
    · have p14 := bq_lt14 H (bq_pv H hz et)
      refine br_f (by rw [bq_en_n et]; exact bq_nm1 (by omega)) ⟨pk_in z 14 z14, by_bad_y c7 hz (br_t rfl (br_f (fun q => et ((nI_eq (by omega) (by omega)).mp q)) ⟨pk_in z 16 (by omega), ?_, I'⟩))⟩
      exact hQ z hz
  · exact by_bad c7 v1 (fun z hz e => absurd e (hn z hz)) (fun _ => br_f (by decide) ⟨rfl, I'⟩)
theorem i_vc_leavesBelow {k : Nat} {u : SX} {v : SY} (I : i_Rel k u v) (hk : k + 4 ≤ 2049) (v1 : Int32) : wpX_leavesBelow (fun r => wpY_leavesBelow (fun r' => r' = r ∧ i_Rel (k + 4) u v) v v1) u v1 := by
  have I' : i_Rel (k + 4) u v := I
  obtain ⟨c, top, par, on, tw, code, pa, cd, co, ra, up, le, wa, we, sb, ow, ab, o, t, lo, mn, su, ot, rfl, rfl, H, hP, hC, hQ, hPC, hY, hco⟩ := I
  have c7 := bq_c7 H
  unfold wpX_leavesBelow wpY_leavesBelow
  dsimp only
  refine bx_isNode c7 v1 (fun z hz e => br_f (by decide) ?_) (fun hn => br_t rfl ?_)
  · have z14 := bq_lt14 H hz
    rw [e]
    exact bx_set H hP (by omega) (by_bad_y c7 hz (br_t rfl (by_below H hQ (by omega) ⟨rfl, I'⟩)))
  · exact by_bad c7 v1 (fun z hz e => absurd e (hn z hz)) (fun _ => br_f (by decide) ⟨rfl, I'⟩)
/-- the meeting: the first at or above z that is at or above y -/
def bq_me (top : Nat) (par : Nat → Nat) (y : Nat) : Nat → Nat → Nat
  | 0, z => z
  | n + 1, z => if bq_A top par z y then z else bq_me top par y n (par z)
section
variable {c top : Nat} {par on tw d : Nat → Nat} {pa cd co ra up le wa : Nat → Int32} {we : Nat → Int64} {sb ow ab o t lo mn : Nat → Int32} {su : Nat → Int64} {ot : Nat → Int32}
theorem bq_me_t (H : bq_T c top par on tw) {y : Nat} (hy : bq_V c y) : ∀ n, bq_me top par y n top = top := by
  intro n
  cases n with
  | zero => rfl
  | succ n => exact if_pos (bq_A_all H y hy)
theorem bq_me_st (H : bq_T c top par on tw) (hD : bq_D c top par d) {y : Nat} (hy : bq_V c y) : ∀ n m z, bq_V c z → d z ≤ n → d z ≤ m → bq_me top par y n z = bq_me top par y m z := by
  intro n
  induction n with
  | zero =>
    intro m z hz h0 _
    rw [bq_d0 hD hz (by omega), bq_me_t H hy, bq_me_t H hy]
  | succ n ih =>
    intro m z hz h0 h1
    by_cases et : z = top
    · rw [et, bq_me_t H hy, bq_me_t H hy]
    · have hd := hD.2.1 z hz et
      obtain ⟨m', rfl⟩ : ∃ m', m = m' + 1 := ⟨m - 1, by omega⟩
      show (if bq_A top par z y then z else bq_me top par y n (par z)) = (if bq_A top par z y then z else bq_me top par y m' (par z))
      rw [ih m' (par z) (bq_pv H hz et) (by omega) (by omega)]
theorem bx_meet23 (H : bq_T c top par on tw) (hP : bq_PA c top par pa) {post : Int32 → Prop} {lc : Int32} {y : Nat} (hy : bq_V c y) :
    ∀ m z k n, bq_V c z → k + m = 6 → m < n → post (nI (bq_me top par y m z)) → wX_meet_23 post (nI y) lc pa cd co ra up le wa we sb n (nI z) (nI k) := by
  intro m
  induction m with
  | zero =>
    intro z k n hz hk hn h
    obtain ⟨n', rfl⟩ : ∃ n', n = n' + 1 := ⟨n - 1, by omega⟩
    exact pk_le 6 k (fun _ => h) (fun q => absurd q (by omega))
  | succ m ih =>
    intro z k n hz hk hn h
    obtain ⟨n', rfl⟩ : ∃ n', n = n' + 1 := ⟨n - 1, by omega⟩
    have z14 := bq_lt14 H hz
    refine pk_le 6 k (fun q => absurd q (by omega)) (fun _ => ?_)
    refine bx_above H hP (by omega) hy (fun hA => br_f (by decide) ?_) (fun hA => br_t rfl ?_)
    · rw [show bq_me top par y (m + 1) z = z from if_pos hA] at h
      exact h
    · rw [show bq_me top par y (m + 1) z = bq_me top par y m (par z) from if_neg hA] at h
      have zt := bq_ntop H hy hA
      refine ⟨pk_in z 14 z14, nm_r (e' := nI (par z)) ?_ (nm_r (nI_1 k) (ih (par z) (k + 1) n' (bq_pv H hz zt) (by omega) (by omega) h))⟩
      rw [nI_clamp (by omega), hP z hz, bq_en_n zt]
theorem by_meet23 (H : bq_T c top par on tw) (hQ : bq_PA c top par ab) {post : Int32 → Prop} {ct tp : Int32} {y : Nat} (hy : bq_V c y) :
    ∀ m z k n, bq_V c z → k + m = 16 → m < n → post (nI (bq_me top par y m z)) → wY_meet_23 post (nI y) ct tp ow ab o t co ra lo mn su ot n (nI z) (nI k) := by
  intro m
  induction m with
  | zero =>
    intro z k n hz hk hn h
    obtain ⟨n', rfl⟩ : ∃ n', n = n' + 1 := ⟨n - 1, by omega⟩
    exact pk_le 16 k (fun _ => h) (fun q => absurd q (by omega))
  | succ m ih =>
    intro z k n hz hk hn h
    obtain ⟨n', rfl⟩ : ∃ n', n = n' + 1 := ⟨n - 1, by omega⟩
    have z14 := bq_lt14 H hz
    refine pk_le 16 k (fun q => absurd q (by omega)) (fun _ => ?_)
    refine by_over H hQ (by omega) hy (fun hA => br_f (by decide) ?_) (fun hA => br_t rfl ?_)
    · rw [show bq_me top par y (m + 1) z = z from if_pos hA] at h
      exact h
    · rw [show bq_me top par y (m + 1) z = bq_me top par y m (par z) from if_neg hA] at h
      have zt := bq_ntop H hy hA
      have p14 := bq_lt14 H (bq_pv H hz zt)
      rw [nI_clamp (by omega), hQ z hz, bq_en_n zt]
      exact ⟨pk_in z 16 (by omega), br_t (nI_pos' (by omega)) ⟨pk_in z 16 (by omega), nm_e (nm_r (nI_1 k) (ih (par z) (k + 1) n' (bq_pv H hz zt) (by omega) (by omega) h))⟩⟩
end
theorem i_vc_meet {k : Nat} {u : SX} {v : SY} (I : i_Rel k u v) (hk : k + 4 ≤ 2049) (v1 : Int32) (v2 : Int32) : wpX_meet (fun r => wpY_meet (fun r' => r' = r ∧ i_Rel (k + 4) u v) v v1 v2) u v1 v2 := by
  have I' : i_Rel (k + 4) u v := I
  obtain ⟨c, top, par, on, tw, code, pa, cd, co, ra, up, le, wa, we, sb, ow, ab, o, t, lo, mn, su, ot, rfl, rfl, H, hP, hC, hQ, hPC, hY, hco⟩ := I
  have c7 := bq_c7 H
  obtain ⟨d, hD⟩ := bq_ex H
  unfold wpX_meet wpY_meet
  dsimp only
  refine bx_isNode c7 v1 (fun x hx e => br_f (by decide) ?_) (fun hn => br_t rfl ?_)
  · refine bx_isNode c7 v2 (fun y hy e2 => br_f (by decide) ?_) (fun hn => br_t rfl ?_)
    · rw [e, e2]
      have d6 := hD.2.2 x hx
      refine ⟨7, bx_meet23 H hP hy 6 x 0 7 hx rfl (by omega) ?_⟩
      refine by_bad_y c7 hx (br_t rfl (by_bad_y c7 hy (br_t rfl ⟨17, by_meet23 H hQ hy 16 x 0 17 hx rfl (by omega) ⟨?_, ?_⟩⟩)))
      · rw [bq_me_st H hD hy 16 6 x hx (by omega) (by omega)]
      · exact I'
    · rw [e]
      exact by_bad_y c7 hx (br_t rfl (by_bad c7 v2 (fun z hz e => absurd e (hn z hz)) (fun _ => br_f (by decide) ⟨rfl, I'⟩)))
  · exact by_bad c7 v1 (fun z hz e => absurd e (hn z hz)) (fun _ => br_f (by decide) ⟨rfl, I'⟩)
end
section
/-! cost, rate, attach, mutate, swap -/
theorem bq_co_u {co : Nat → Int32} {i : Nat} {v : Int32} (hco : ∀ i, i < 16 → ∃ k, k ≤ 9 ∧ co i = nI k) (h0 : ¬ v < 0) (h9 : v ≤ 9) : ∀ j, j < 16 → ∃ k, k ≤ 9 ∧ upd co i v j = nI k := by
  intro j hj
  by_cases e : j = i
  · rw [e, pk_us]
    obtain ⟨q, hq, rfl⟩ := nI_of h0
    refine ⟨q, ?_, rfl⟩
    have := (nI_leI (b := 9) hq (by omega)).mp h9
    omega
  · rw [pk_un e]
    exact hco j hj
theorem i_vc_cost {k : Nat} {u : SX} {v : SY} (I : i_Rel k u v) (hk : k + 4 ≤ 2049) (v1 : Int32) (v2 : Int32) (v3 : Int32) : wpX_cost (fun r u' => wpY_cost (fun r' v' => r' = r ∧ i_Rel (k + 4) u' v') v v1 v2 v3) u v1 v2 v3 := by
  have I' : i_Rel (k + 4) u v := I
  obtain ⟨c, top, par, on, tw, code, pa, cd, co, ra, up, le, wa, we, sb, ow, ab, o, t, lo, mn, su, ot, rfl, rfl, H, hP, hC, hQ, hPC, hY, hco⟩ := I
  unfold wpX_cost wpY_cost
  dsimp only
  refine bx_isState v1 (fun a ha e => br_f (by decide) ?_) (fun hn => br_t rfl (by_badState v1 (fun z hz e => absurd e (hn z hz)) (fun _ => br_f (by decide) ⟨rfl, I'⟩)))
  have Y1 : ∀ {Q : Int32 → Prop}, Q 0 → wpY_badState Q (nI c, nI top, ow, ab, o, t, co, ra, lo, mn, su, ot) v1 := fun q => by_badState v1 (fun _ _ _ => q) (fun hn => absurd e (hn a ha))
  refine bx_isState v2 (fun b hb e2 => br_f (by decide) ?_) (fun hn => br_t rfl (Y1 (br_t rfl (by_badState v2 (fun z hz e => absurd e (hn z hz)) (fun _ => br_f (by decide) ⟨rfl, I'⟩)))))
  have Y2 : ∀ {Q : Int32 → Prop}, Q 0 → wpY_badState Q (nI c, nI top, ow, ab, o, t, co, ra, lo, mn, su, ot) v2 := fun q => by_badState v2 (fun _ _ _ => q) (fun hn => absurd e2 (hn b hb))
  refine br_c (fun h => Y1 (br_t rfl (Y2 (br_t rfl (br_t h ⟨rfl, I'⟩))))) (fun h => br_c (fun h9 => ?_) (fun h9 => Y1 (br_t rfl (Y2 (br_t rfl (br_f h (br_f h9 ⟨rfl, I'⟩)))))))
  have ex : (v1 * 4) + v2 = nI (4 * a + b) := by rw [e, e2, bq_i4]
  have ey : (4 * v1) + v2 = nI (4 * a + b) := by rw [e, e2, bq_j4]
  rw [ex, ey, nI_clamp (by omega)]
  have hi : vp_in (nI (4 * a + b)) 16 := pk_in (4 * a + b) 16 (by omega)
  exact ⟨hi, nm_e ⟨hi, nm_e (Y1 (br_t rfl (Y2 (br_t rfl (br_f h (br_t h9 ⟨hi, nm_e ⟨hi, nm_e ⟨rfl, bq_mkR H hP hC hQ hPC hY (bq_co_u hco h h9)⟩⟩⟩))))))⟩⟩
theorem i_vc_rate {k : Nat} {u : SX} {v : SY} (I : i_Rel k u v) (hk : k + 4 ≤ 2049) (v1 : Int32) (v2 : Int32) (v3 : Int32) : wpX_rate (fun r u' => wpY_rate (fun r' v' => r' = r ∧ i_Rel (k + 4) u' v') v v1 v2 v3) u v1 v2 v3 := by
  have I' : i_Rel (k + 4) u v := I
  obtain ⟨c, top, par, on, tw, code, pa, cd, co, ra, up, le, wa, we, sb, ow, ab, o, t, lo, mn, su, ot, rfl, rfl, H, hP, hC, hQ, hPC, hY, hco⟩ := I
  unfold wpX_rate wpY_rate
  dsimp only
  refine bx_isState v1 (fun a ha e => br_f (by decide) ?_) (fun hn => br_t rfl (by_badState v1 (fun z hz e => absurd e (hn z hz)) (fun _ => br_f (by decide) ⟨rfl, I'⟩)))
  have Y1 : ∀ {Q : Int32 → Prop}, Q 0 → wpY_badState Q (nI c, nI top, ow, ab, o, t, co, ra, lo, mn, su, ot) v1 := fun q => by_badState v1 (fun _ _ _ => q) (fun hn => absurd e (hn a ha))
  refine bx_isState v2 (fun b hb e2 => br_f (by decide) ?_) (fun hn => br_t rfl (Y1 (br_t rfl (by_badState v2 (fun z hz e => absurd e (hn z hz)) (fun _ => br_f (by decide) ⟨rfl, I'⟩)))))
  have Y2 : ∀ {Q : Int32 → Prop}, Q 0 → wpY_badState Q (nI c, nI top, ow, ab, o, t, co, ra, lo, mn, su, ot) v2 := fun q => by_badState v2 (fun _ _ _ => q) (fun hn => absurd e2 (hn b hb))
  refine br_c (fun h => Y1 (br_t rfl (Y2 (br_t rfl (br_t h ⟨rfl, I'⟩))))) (fun h => br_c (fun h9 => ?_) (fun h9 => Y1 (br_t rfl (Y2 (br_t rfl (br_f h (br_f h9 ⟨rfl, I'⟩)))))))
  have ex : (v1 * 4) + v2 = nI (4 * a + b) := by rw [e, e2, bq_i4]
  have ey : (4 * v1) + v2 = nI (4 * a + b) := by rw [e, e2, bq_j4]
  rw [ex, ey, nI_clamp (by omega)]
  have hi : vp_in (nI (4 * a + b)) 16 := pk_in (4 * a + b) 16 (by omega)
  exact ⟨hi, nm_e ⟨hi, nm_e (Y1 (br_t rfl (Y2 (br_t rfl (br_f h (br_t h9 ⟨hi, nm_e ⟨hi, nm_e ⟨rfl, bq_mkR H hP hC hQ hPC hY hco⟩⟩⟩))))))⟩⟩
theorem bq_CX_u {c c' l cde : Nat} {code : Nat → Nat} {cd : Nat → Int32} (hl : ∀ i, i < c' → i ≠ l → i < c) (hC : bq_CX c code cd) (h : cde < 256) : bq_CX c' (bq_up code l cde) (upd cd l (nI cde)) := by
  intro i hi
  by_cases e : i = l
  · rw [e, bq_us, pk_us]
    exact ⟨h, rfl⟩
  · rw [bq_un e, pk_un e]
    exact hC i (hl i hi e)
theorem bq_CY_u {c c' l cde : Nat} {code : Nat → Nat} {ow : Nat → Int32} (hl : ∀ i, i < c' → i ≠ l → i < c) (hY : bq_CY c code ow) : bq_CY c' (bq_up code l cde) (bq_gv ow l cde 0 4) := by
  intro i hi s hs
  rw [bq_gv_at l cde 4 0 ow i s (by omega) hs]
  by_cases e : i = l
  · rw [if_pos ⟨e, by omega, by omega⟩, e, bq_us]
  · rw [if_neg (fun q => e q.1), bq_un e]
    exact hY i (hl i hi e) s hs
theorem i_vc_attach {k : Nat} {u : SX} {v : SY} (I : i_Rel k u v) (hk : k + 4 ≤ 2049) (v1 : Int32) (v2 : Int32) : wpX_attach (fun r u' => wpY_attach (fun r' v' => r' = r ∧ i_Rel (k + 4) u' v') v v1 v2) u v1 v2 := by
  have I' : i_Rel (k + 4) u v := I
  obtain ⟨c, top, par, on, tw, code, pa, cd, co, ra, up, le, wa, we, sb, ow, ab, o, t, lo, mn, su, ot, rfl, rfl, H, hP, hC, hQ, hPC, hY, hco⟩ := I
  have c7 := bq_c7 H
  unfold wpX_attach wpY_attach
  dsimp only
  refine bx_isNode c7 v1 (fun z hz e => br_f (by decide) ?_) (fun hn => br_t rfl (by_bad c7 v1 (fun z hz e => absurd e (hn z hz)) (fun _ => br_f (by decide) ⟨rfl, I'⟩)))
  rw [e]
  refine bx_isLeafCode v2 (fun cde h256 e2 => br_f (by decide) ?_) (fun hn => br_t rfl (by_bad_y c7 hz (br_t rfl (by_badStates v2 (fun z hz e => absurd e (hn z hz)) (fun _ => br_f (by decide) ⟨rfl, I'⟩)))))
  rw [e2]
  have Y1 : ∀ {Q : Int32 → Prop}, Q 0 → wpY_badStates Q (nI c, nI top, ow, ab, o, t, co, ra, lo, mn, su, ot) (nI cde) := fun q => by_badStates (nI cde) (fun _ _ _ => q) (fun hn => absurd rfl (hn cde h256))
  refine pk_eq c 7 (fun h => by_bad_y c7 hz (br_t rfl (Y1 (br_t rfl (br_f (nI_ge (b := c) (a := 6) (by omega) (by omega)) ⟨rfl, I'⟩))))) (fun h => ?_)
  have hc : c < 7 := by omega
  refine bx_add hc hz ?_
  refine by_bad_y c7 hz (br_t rfl (Y1 (br_t rfl (br_t (nI_le (b := 6) (by omega) (by omega)) (by_putIn H hQ hPC hc hz h256 (fun o' t' hPC' => ?_))))))
  refine ⟨nI_pred c, ?_⟩
  exact bq_mkR (bq_aH H hc hz) (bq_aPA H hc hz hP) (bq_CX_u (by omega) hC h256) (bq_aPA H hc hz hQ) hPC' (bq_CY_u (by omega) hY) hco
theorem i_vc_mutate {k : Nat} {u : SX} {v : SY} (I : i_Rel k u v) (hk : k + 4 ≤ 2049) (v1 : Int32) (v2 : Int32) : wpX_mutate (fun r u' => wpY_mutate (fun r' v' => r' = r ∧ i_Rel (k + 4) u' v') v v1 v2) u v1 v2 := by
  have I' : i_Rel (k + 4) u v := I
  obtain ⟨c, top, par, on, tw, code, pa, cd, co, ra, up, le, wa, we, sb, ow, ab, o, t, lo, mn, su, ot, rfl, rfl, H, hP, hC, hQ, hPC, hY, hco⟩ := I
  have c7 := bq_c7 H
  unfold wpX_mutate wpY_mutate
  dsimp only
  refine bx_isLeaf c7 v1 (fun z hz e => br_f (by decide) ?_) (fun hn => br_t rfl ?_)
  · rw [e]
    have Y0 : ∀ {Q R : Prop}, Q → ((6 < nI z → R) ∧ (¬ 6 < nI z → Q)) := fun q => br_f (nI_nlt (b := z) (a := 6) (by omega) (by omega)) q
    refine bx_isLeafCode v2 (fun cde h256 e2 => br_f (by decide) ?_) (fun hn => br_t rfl (Y0 (by_bad_y c7 (Or.inl hz) (br_t rfl (by_badStates v2 (fun z hz e => absurd e (hn z hz)) (fun _ => br_f (by decide) ⟨rfl, I'⟩))))))
    rw [e2]
    have Y1 : ∀ {Q : Int32 → Prop}, Q 0 → wpY_badStates Q (nI c, nI top, ow, ab, o, t, co, ra, lo, mn, su, ot) (nI cde) := fun q => by_badStates (nI cde) (fun _ _ _ => q) (fun hn => absurd rfl (hn cde h256))
    obtain ⟨z256, ez⟩ := hC z hz
    have hi : vp_in (nI z) 7 := pk_in z 7 (by omega)
    rw [nI_clamp (by omega), ez]
    refine ⟨hi, nm_e ⟨hi, nm_e ?_⟩⟩
    refine Y0 (by_bad_y c7 (Or.inl hz) (br_t rfl (Y1 (br_t rfl (by_held (by omega) z256 (hY z hz) (by_give (by omega) h256 ⟨rfl, ?_⟩))))))
    exact bq_mkR H hP (bq_CX_u (fun i hi _ => hi) hC h256) hQ hPC (bq_CY_u (fun i hi _ => hi) hY) hco
  · refine br_c (fun _ => ⟨rfl, I'⟩) (fun h6 => by_bad c7 v1 (fun z hz e => ?_) (fun _ => br_f (by decide) ⟨rfl, I'⟩))
    have z14 := bq_lt14 H hz
    rcases hz with q | q
    · exact absurd e (hn z q)
    · rw [e] at h6
      exact absurd (nI_lt (a := 6) (b := z) (by omega) (by omega)) h6
section
variable {c top : Nat} {par on tw code : Nat → Nat} {pa cd co ra up le wa : Nat → Int32} {we : Nat → Int64} {sb : Nat → Int32}
theorem bx_refuse (H : bq_T c top par on tw) (hP : bq_PA c top par pa) {v1 v2 : Int32} {post : Int32 → Prop} (h1 : (∀ z, bq_V c z → v1 ≠ nI z) → post (-1))
    (h2 : ∀ x, bq_V c x → v1 = nI x → (∀ z, bq_V c z → v2 ≠ nI z) → post (-1))
    (h3 : ∀ x y, bq_V c x → bq_V c y → v1 = nI x → v2 = nI y → bq_A top par x y → post (-2))
    (h4 : ∀ x y, bq_V c x → bq_V c y → v1 = nI x → v2 = nI y → ¬ bq_A top par x y → bq_A top par y x → post (-2))
    (h5 : ∀ x y, bq_V c x → bq_V c y → v1 = nI x → v2 = nI y → ¬ bq_A top par x y → ¬ bq_A top par y x → post 0) : wpX_refusalOfSwap post (nI c, pa, cd, co, ra, up, le, wa, we, sb) v1 v2 := by
  have c7 := bq_c7 H
  unfold wpX_refusalOfSwap
  dsimp only
  refine bx_isNode c7 v1 (fun x hx e => br_f (by decide) ?_) (fun hn => br_t rfl (h1 hn))
  refine bx_isNode c7 v2 (fun y hy e2 => br_f (by decide) ?_) (fun hn => br_t rfl (h2 x hx e hn))
  have x14 := bq_lt14 H hx
  have y14 := bq_lt14 H hy
  have k3 := h3 x y hx hy e e2
  have k4 := h4 x y hx hy e e2
  have k5 := h5 x y hx hy e e2
  rw [e, e2]
  exact bx_above H hP (by omega) hy (fun a => br_f (by decide) (k3 a)) (fun a => br_t rfl (bx_above H hP (by omega) hx (fun b => br_f (by decide) (k4 a b)) (fun b => br_t rfl (k5 a b))))
end
theorem i_vc_swap {k : Nat} {u : SX} {v : SY} (I : i_Rel k u v) (hk : k + 4 ≤ 2049) (v1 : Int32) (v2 : Int32) : wpX_swap (fun r u' => wpY_swap (fun r' v' => r' = r ∧ i_Rel (k + 4) u' v') v v1 v2) u v1 v2 := by
  have I' : i_Rel (k + 4) u v := I
  obtain ⟨c, top, par, on, tw, code, pa, cd, co, ra, up, le, wa, we, sb, ow, ab, o, t, lo, mn, su, ot, rfl, rfl, H, hP, hC, hQ, hPC, hY, hco⟩ := I
  have c7 := bq_c7 H
  unfold wpX_swap wpY_swap
  dsimp only
  refine bx_refuse H hP (fun hn => ?_) (fun x hx e hn => ?_) (fun x y hx hy e e2 a => ?_) (fun x y hx hy e e2 a b => ?_) (fun x y hx hy e e2 a b => ?_)
  · exact br_f (by decide) (by_bad c7 v1 (fun z hz e => absurd e (hn z hz)) (fun _ => br_f (by decide) ⟨rfl, I'⟩))
  · rw [e]
    exact br_f (by decide) (by_bad_y c7 hx (br_t rfl (by_bad c7 v2 (fun z hz e => absurd e (hn z hz)) (fun _ => br_f (by decide) ⟨rfl, I'⟩))))
  · have x14 := bq_lt14 H hx
    rw [e, e2]
    exact br_f (by decide) (by_bad_y c7 hx (br_t rfl (by_bad_y c7 hy (br_t rfl (by_over H hQ (by omega) hy (fun _ => br_f (by decide) ⟨rfl, I'⟩) (fun q => absurd a q))))))
  · have x14 := bq_lt14 H hx
    have y14 := bq_lt14 H hy
    rw [e, e2]
    exact br_f (by decide) (by_bad_y c7 hx (br_t rfl (by_bad_y c7 hy (br_t rfl (by_over H hQ (by omega) hy (fun q => absurd q a) (fun _ => br_t rfl (by_over H hQ (by omega) hx (fun _ => br_f (by decide) ⟨rfl, I'⟩) (fun q => absurd b q))))))))
  · have x14 := bq_lt14 H hx
    have y14 := bq_lt14 H hy
    have xt := bq_ntop H hy a
    have yt := bq_ntop H hx b
    rw [e, e2]
    refine br_t rfl (bx_exch c7 hx hy ?_)
    refine by_bad_y c7 hx (br_t rfl (by_bad_y c7 hy (br_t rfl (by_over H hQ (by omega) hy (fun q => absurd q a) (fun _ => br_t rfl (by_over H hQ (by omega) hx (fun q => absurd q b) (fun _ => br_t rfl (by_exch H hQ hPC hx hy xt yt (fun o' t' hPC' => ⟨rfl, ?_⟩)))))))))
    exact bq_mkR (bq_wH H hx hy a b) (bq_wPA H hx hy xt yt hP) hC (bq_wPA H hx hy xt yt hQ) hPC' hY hco
end
section
/-! move -/
section
variable {c top : Nat} {par on tw code : Nat → Nat} {pa cd co ra up le wa : Nat → Int32} {we : Nat → Int64} {sb ow ab o t lo mn : Nat → Int32} {su : Nat → Int64} {ot : Nat → Int32}
theorem bx_sib4 (H : bq_T c top par on tw) (hP : bq_PA c top par pa) {x s p : Nat} (hx : bq_V c x) (xt : x ≠ top) (ep : par x = p) (hs : bq_V c s) (st : s ≠ top) (es : par s = p) (sx : s ≠ x)
    (hk : ∀ k, bq_V c k → k ≠ top → par k = p → k = x ∨ k = s) {post : Int32 → Prop} (K : post (nI s)) :
    ∀ r j n, j + r = 14 → r < n → wX_siblingOf_4 post (nI x) (nI c) pa cd co ra up le wa we sb n (if s < j then nI s else nI x) (nI j) := by
  have x14 := bq_lt14 H hx
  have s14 := bq_lt14 H hs
  have c7 := bq_c7 H
  intro r
  induction r with
  | zero =>
    intro j n hj hn
    obtain ⟨n', rfl⟩ : ∃ n', n = n' + 1 := ⟨n - 1, by omega⟩
    obtain rfl : j = 14 := by omega
    rw [if_pos s14]
    exact br_t (by decide) K
  | succ r ih =>
    intro j n hj hn
    obtain ⟨n', rfl⟩ : ∃ n', n = n' + 1 := ⟨n - 1, by omega⟩
    have key := ih (j + 1) n' (by omega) (by omega)
    have same : j ≠ s → (if s < j + 1 then nI s else nI x) = (if s < j then nI s else nI x) := fun q => by
      by_cases e : s < j
      · rw [if_pos e, if_pos (by omega)]
      · rw [if_neg e, if_neg (by omega)]
    refine pk_le 14 j (fun q => absurd q (by omega)) (fun _ => ?_)
    by_cases hv : bq_V c j
    · refine bx_isNode_y c7 hv (br_f (by decide) ?_)
      rw [nI_clamp (by omega), nI_clamp (by omega), hP j hv, hP x hx, bq_en_n xt, ep]
      refine pk_eq j x (fun e => ?_) (fun e => ⟨pk_in j 14 (by omega), pk_in x 14 (by omega), ?_⟩)
      · rw [same (fun q => sx (q.symm.trans e))] at key
        exact nm_r (nI_1 j) key
      · by_cases es2 : j = s
        · rw [if_pos (by omega)] at key
          refine br_t (by rw [es2, bq_en_n st, es]) (nm_r (nI_1 j) ?_)
          rw [es2] at key ⊢
          exact key
        · rw [same es2] at key
          refine br_f (fun q => ?_) (nm_r (nI_1 j) key)
          have p14 := bq_lt14 H (bq_pv H hx xt)
          rw [ep] at p14
          by_cases jt : j = top
          · rw [jt, bq_en_t] at q
            exact bq_nm1 (z := p) (by omega) q.symm
          · have q14 := bq_lt14 H (bq_pv H hv jt)
            rw [bq_en_n jt, nI_eq (by omega) (by omega)] at q
            rcases hk j hv jt q with a | a
            · exact e a
            · exact es2 a
    · have e : j ≠ s := fun q => hv (by rw [q]; exact hs)
      rw [same e] at key
      exact bx_isNode_n c7 hv (by omega) (br_t rfl (nm_r (nI_1 j) key))
theorem bx_sib (H : bq_T c top par on tw) (hP : bq_PA c top par pa) {x s p : Nat} (hx : bq_V c x) (xt : x ≠ top) (ep : par x = p) (hs : bq_V c s) (st : s ≠ top) (es : par s = p) (sx : s ≠ x)
    (hk : ∀ k, bq_V c k → k ≠ top → par k = p → k = x ∨ k = s) {post : Int32 → Prop} (K : post (nI s)) : wpX_siblingOf post (nI c, pa, cd, co, ra, up, le, wa, we, sb) (nI x) := by
  have := bx_sib4 (cd := cd) (co := co) (ra := ra) (up := up) (le := le) (wa := wa) (we := we) (sb := sb) H hP hx xt ep hs st es sx hk K 14 0 15 rfl (by omega)
  rw [if_neg (by omega)] at this
  exact ⟨15, this⟩
theorem bq_O1 (H : bq_T c top par on tw) {p s : Nat} (f : Nat → Nat) (hf : ∀ q, 8 ≤ q → q < 7 + c → f q ≠ top ∧ par (f q) = q) {q : Nat} (h8 : 8 ≤ q) (h7 : q < 7 + c) :
    (f q = p → bq_mO1 p s top par f q = s) ∧ (f q ≠ p → bq_mO1 p s top par f q = f q) := by
  obtain ⟨n, k⟩ := hf q h8 h7
  refine ⟨fun r => ?_, fun r => ?_⟩
  · have pt : p ≠ top := by
      rw [← r]
      exact n
    rw [r] at k
    rw [bq_mO1, if_neg pt, k, bq_ra_g r]
  · rw [bq_mO1]
    by_cases pt : p = top
    · rw [if_pos pt]
    · rw [if_neg pt, bq_ra_n r]
theorem by_mv78 (H : bq_T c top par on tw) (hQ : bq_PA c top par ab) (hPC : bq_PC c on tw o t) {x y s p : Nat} (h : bq_M c top par on tw x y s p) {post : Int32 → SY → Prop} {ct : Int32}
    (K : ∀ ab' o' t', bq_PA c (bq_mT2 y p (bq_mT1 p s top)) (bq_mP3 y p (bq_up par s (par p))) ab' →
      bq_PC c (bq_up (bq_mO2 y p (bq_mT1 p s top) (bq_up par s (par p)) (bq_mO1 p s top par on)) p y) (bq_up (bq_mO2 y p (bq_mT1 p s top) (bq_up par s (par p)) (bq_mO1 p s top par tw)) p x) o' t' →
      post 0 (ct, nI (bq_mT2 y p (bq_mT1 p s top)), ow, ab', o', t', co, ra, lo, mn, su, ot)) :
    wY_move_78 post (nI x) (nI y) (nI p) (nI s) ct (nI top) ow ab o t co ra lo mn su ot := by
  have c7 := bq_c7 H
  obtain ⟨p8, p7, vs, st, es, sx, sp, xp, hk, hpp, yx⟩ := bq_M_f H h
  have hmPA := bq_mPA H h hQ
  obtain ⟨hx, hy, xt, ep, hA, yp, hs⟩ := h
  have vp : bq_V c p := Or.inr ⟨p8, p7⟩
  have x14 := bq_lt14 H hx
  have y14 := bq_lt14 H hy
  have s14 := bq_lt14 H vs
  have p14 := bq_lt14 H vp
  have fo : ∀ q, 8 ≤ q → q < 7 + c → on q ≠ top ∧ par (on q) = q := fun q h8 h7 => (bq_on H h8 h7).2
  have ft : ∀ q, 8 ≤ q → q < 7 + c → tw q ≠ top ∧ par (tw q) = q := fun q h8 h7 => (bq_tw H h8 h7).2
  have eab : upd ab s (bq_en top par p) y = bq_en (bq_mT1 p s top) (bq_up par s (par p)) y := by
    by_cases ys : y = s
    · rw [ys, pk_us]
      by_cases pt : p = top
      · rw [bq_mT1, if_pos pt, bq_en_t, pt, bq_en_t]
      · rw [bq_mT1, if_neg pt, bq_en_n pt, bq_en_n st, bq_us]
    · rw [pk_un ys, hQ y hy]
      by_cases pt : p = top
      · rw [bq_mT1, if_pos pt, bq_en_n (fun q => yp (q.trans pt.symm)), bq_en_n ys, bq_un ys]
      · rw [bq_mT1, if_neg pt]
        by_cases yt : y = top
        · rw [yt, bq_en_t, bq_en_t]
        · rw [bq_en_n yt, bq_en_n yt, bq_un ys]
  unfold wY_move_78
  refine by_repl (top := top) (par := par) (on := on) (tw := tw) (c := c) (by omega) (by omega) (hQ p vp) c7 hPC (fun pt => ?_) (fun o1 t1 hPC1 => ?_)
  · have g8 := bq_p8 H vp pt
    have g7 := bq_p7 H vp pt
    have := bq_lt14 H (bq_on H g8 g7).1
    exact ⟨g8, g7, bq_pk H vp pt, bq_nt H g8 g7, by omega⟩
  · refine by_repl (top := bq_mT1 p s top) (par := bq_up par s (par p)) (on := bq_mO1 p s top par on) (tw := bq_mO1 p s top par tw) (c := c) (by omega) (by omega) eab c7 hPC1 (fun yt1 => ?_) (fun o2 t2 hPC2 => ?_)
    · by_cases ys : y = s
      · have pt : p ≠ top := fun q => yt1 (by rw [bq_mT1, if_pos q]; exact ys)
        rw [ys, bq_us]
        have g8 := bq_p8 H vp pt
        have g7 := bq_p7 H vp pt
        have gp : par p ≠ p := hpp pt
        have n14 := bq_lt14 H (bq_on H g8 g7).1
        have no : on (par p) ≠ s := fun q => by
          have := (fo _ g8 g7).2
          rw [q, es] at this
          exact gp this.symm
        have nt : tw (par p) ≠ s := fun q => by
          have := (ft _ g8 g7).2
          rw [q, es] at this
          exact gp this.symm
        refine ⟨g8, g7, ?_⟩
        rcases bq_pk H vp pt with q | q
        · have q2 : tw (par p) ≠ p := fun r => bq_nt H g8 g7 (q.trans r.symm)
          rw [(bq_O1 H on fo g8 g7).1 q, (bq_O1 H tw ft g8 g7).2 q2]
          exact ⟨Or.inl rfl, fun r => nt r.symm, by omega⟩
        · have q2 : on (par p) ≠ p := fun r => bq_nt H g8 g7 (r.trans q.symm)
          rw [(bq_O1 H on fo g8 g7).2 q2, (bq_O1 H tw ft g8 g7).1 q]
          exact ⟨Or.inr rfl, no, by omega⟩
      · have yt : y ≠ top := fun q => by
          by_cases pt : p = top
          · exact yp (q.trans pt.symm)
          · exact yt1 (by rw [bq_mT1, if_neg pt]; exact q)
        rw [bq_un ys]
        have g8 := bq_p8 H hy yt
        have g7 := bq_p7 H hy yt
        have n14 := bq_lt14 H (bq_on H g8 g7).1
        have ne := bq_nt H g8 g7
        refine ⟨g8, g7, ?_⟩
        rcases bq_pk H hy yt with q | q
        · rw [(bq_O1 H on fo g8 g7).2 (by rw [q]; exact yp), q]
          rw [q] at ne
          refine ⟨Or.inl rfl, ?_, by omega⟩
          by_cases r : tw (par y) = p
          · rw [(bq_O1 H tw ft g8 g7).1 r]
            exact ys
          · rw [(bq_O1 H tw ft g8 g7).2 r]
            exact ne
        · rw [(bq_O1 H tw ft g8 g7).2 (by rw [q]; exact yp), q]
          rw [q] at ne
          by_cases r : on (par y) = p
          · rw [(bq_O1 H on fo g8 g7).1 r]
            exact ⟨Or.inr rfl, fun w => ys w.symm, by omega⟩
          · rw [(bq_O1 H on fo g8 g7).2 r]
            exact ⟨Or.inr rfl, ne, by omega⟩
    · refine by_join (by omega) (by omega) (by omega) ?_
      refine K _ _ _ (bq_PA_u (x := x) ?_ ?_) (bq_PC_j (fun q h8 h7 _ => hPC2 q h8 h7))
      · rw [← eab, ← hQ p vp]
        exact hmPA
      · have xT : x ≠ bq_mT2 y p (bq_mT1 p s top) := by
          rw [bq_mT2]
          by_cases b : y = bq_mT1 p s top
          · rw [if_pos b]
            exact xp
          · rw [if_neg b, bq_mT1]
            by_cases pt : p = top
            · rw [if_pos pt]
              exact fun q => sx q.symm
            · rw [if_neg pt]
              exact xt
        rw [bq_en_n xT, bq_mP3, bq_un (fun q => yx q.symm), bq_un xp, bq_un (fun q => sx q.symm), ep]
end
theorem i_vc_move {k : Nat} {u : SX} {v : SY} (I : i_Rel k u v) (hk : k + 4 ≤ 2049) (v1 : Int32) (v2 : Int32) : wpX_move (fun r u' => wpY_move (fun r' v' => r' = r ∧ i_Rel (k + 4) u' v') v v1 v2) u v1 v2 := by
  have I' : i_Rel (k + 4) u v := I
  obtain ⟨c, top, par, on, tw, code, pa, cd, co, ra, up, le, wa, we, sb, ow, ab, o, t, lo, mn, su, ot, rfl, rfl, H, hP, hC, hQ, hPC, hY, hco⟩ := I
  have c7 := bq_c7 H
  unfold wpX_move wpY_move
  dsimp only
  refine bx_isNode c7 v1 (fun x hx e => br_f (by decide) ?_) (fun hn => br_t rfl (by_bad c7 v1 (fun z hz e => absurd e (hn z hz)) (fun _ => br_f (by decide) ⟨rfl, I'⟩)))
  rw [e]
  refine bx_isNode c7 v2 (fun y hy e2 => br_f (by decide) ?_) (fun hn => br_t rfl (by_bad_y c7 hx (br_t rfl (by_bad c7 v2 (fun z hz e => absurd e (hn z hz)) (fun _ => br_f (by decide) ⟨rfl, I'⟩)))))
  rw [e2]
  have x14 := bq_lt14 H hx
  have y14 := bq_lt14 H hy
  have t14 := bq_lt14 H (bq_vt H)
  have xi : vp_in (nI x) 14 := pk_in x 14 x14
  have xi6 : vp_in (nI x) 16 := pk_in x 16 (by omega)
  have yi : vp_in (nI y) 14 := pk_in y 14 y14
  rw [nI_clamp (show x < 2 ^ 31 by omega), nI_clamp (show y < 2 ^ 31 by omega), hP x hx, hQ x hx]
  by_cases xt : x = top
  · exact ⟨xi, br_t (by rw [xt, bq_en_t]) (by_bad_y c7 hx (br_t rfl (by_bad_y c7 hy (br_t rfl (br_t (by rw [xt]) ⟨rfl, I'⟩)))))⟩
  have vp := bq_pv H hx xt
  have p14 := bq_lt14 H vp
  have nt : ¬ nI x = nI top := fun q => xt ((nI_eq (by omega) (by omega)).mp q)
  rw [bq_en_n xt]
  refine ⟨xi, br_f (bq_nm1 (by omega)) ?_⟩
  refine bx_above H hP (by omega) hy (fun hA => br_f (by decide) ?_) (fun hA => br_t rfl ⟨xi, ?_⟩)
  · exact by_bad_y c7 hx (br_t rfl (by_bad_y c7 hy (br_t rfl (br_f nt ⟨xi6, nm_e (by_over H hQ (by omega) hy (fun _ => br_f (by decide) ⟨rfl, I'⟩) (fun q => absurd hA q))⟩))))
  refine pk_eq y (par x) (fun yp => ?_) (fun yp => ⟨xi, nm_e ?_⟩)
  · exact by_bad_y c7 hx (br_t rfl (by_bad_y c7 hy (br_t rfl (br_f nt ⟨xi6, nm_e (by_over H hQ (by omega) hy (fun q => absurd q hA) (fun _ => br_t rfl (br_t (by rw [yp]) ⟨rfl, I'⟩)))⟩))))
  have p8 := bq_p8 H hx xt
  have p7 := bq_p7 H hx xt
  obtain ⟨s, hs⟩ : ∃ s, (on (par x) = x ∧ tw (par x) = s) ∨ (tw (par x) = x ∧ on (par x) = s) := by
    rcases bq_pk H hx xt with q | q
    · exact ⟨tw (par x), Or.inl ⟨q, rfl⟩⟩
    · exact ⟨on (par x), Or.inr ⟨q, rfl⟩⟩
  have hM : bq_M c top par on tw x y s (par x) := ⟨hx, hy, xt, rfl, hA, yp, hs⟩
  obtain ⟨_, _, vs, st, es, sx, sp, xp, hk2, hpp, yx⟩ := bq_M_f H hM
  have s14 := bq_lt14 H vs
  have pi : vp_in (nI (par x)) 14 := pk_in (par x) 14 p14
  refine bx_sib H hP hx xt rfl vs st es sx hk2 ⟨pi, pk_in s 14 s14, ?_⟩
  rw [nI_clamp (show s < 2 ^ 31 by omega), nI_clamp (show par x < 2 ^ 31 by omega)]
  refine nm_e ⟨yi, pi, nm_e ⟨yi, nm_e ?_⟩⟩
  have pi6 : vp_in (nI (par x)) 16 := pk_in (par x) 16 (by omega)
  have L : wY_move_78 (fun r' v' => r' = 0 ∧ i_Rel (k + 4) (nI c, upd (upd (upd pa s (pa (par x))) (par x) ((upd pa s (pa (par x))) y)) y (nI (par x)), cd, co, ra, up, le, wa, we, sb) v') (nI x) (nI y) (nI (par x)) (nI s) (nI c) (nI top) ow ab o t co ra lo mn su ot := by
    refine by_mv78 H hQ hPC hM (fun ab' o' t' hQ' hPC' => ⟨rfl, ?_⟩)
    exact bq_mkR (bq_mH H hM) (bq_mPA H hM hP) hC hQ' hPC' hY hco
  refine by_bad_y c7 hx (br_t rfl (by_bad_y c7 hy (br_t rfl (br_f nt ⟨xi6, nm_e (by_over H hQ (by omega) hy (fun q => absurd q hA) (fun _ => br_t rfl (br_f (fun q => yp ((nI_eq (by omega) (by omega)).mp q)) ⟨pi6, ?_⟩)))⟩))))
  rw [nI_clamp (show par x < 2 ^ 31 by omega), (hPC _ p8 p7).1, (hPC _ p8 p7).2]
  have n14 := bq_lt14 H (bq_on H p8 p7).1
  rcases hs with ⟨a, b⟩ | ⟨a, b⟩
  · rw [b]
    exact br_t (by rw [a]) ⟨pi6, L⟩
  · have q : on (par x) ≠ x := fun r => bq_nt H p8 p7 (r.trans a.symm)
    rw [b]
    rw [b] at q n14
    exact br_f (fun r => q ((nI_eq (by omega) (by omega)).mp r)) ⟨pi6, L⟩
end
section
/-! least, total, ways, states, weight -/
section
variable {c top site : Nat} {par on tw code : Nat → Nat} {pa cd co ra up le wa : Nat → Int32} {we : Nat → Int64} {sb ow ab o t lo mn : Nat → Int32} {su : Nat → Int64} {ot : Nat → Int32} {pin ps : Int32}
theorem bx_lcE (H : bq_T c top par on tw) (hP : bq_PA c top par pa) (hC : bq_CX c code cd) (hi : site < 4) {post : Int32 → SX → Prop}
    (K : ∀ r up' le' wa', bq_Ev c top on tw code co site pin ps r → post r (nI c, pa, cd, co, ra, up', le', wa', we, sb)) : wpX_leastCost post (nI c, pa, cd, co, ra, up, le, wa, we, sb) (nI site) pin ps :=
  bx_leastCost H hP hC hi (fun up' le' wa' h => K _ up' le' wa' ⟨le', wa', h, rfl⟩)
theorem bx_total (H : bq_T c top par on tw) (hP : bq_PA c top par pa) (hC : bq_CX c code cd) {post : Int32 → SX → Prop}
    (K : ∀ r0 r1 r2 r3 up' le' wa', bq_Ev c top on tw code co 0 (-1) 0 r0 → bq_Ev c top on tw code co 1 (-1) 0 r1 → bq_Ev c top on tw code co 2 (-1) 0 r2 → bq_Ev c top on tw code co 3 (-1) 0 r3 →
      post (r0 + r1 + r2 + r3) (nI c, pa, cd, co, ra, up', le', wa', we, sb)) : wpX_total post (nI c, pa, cd, co, ra, up, le, wa, we, sb) := by
  refine ⟨5, ?_⟩
  refine br_f (by decide) (bx_lcE (site := 0) H hP hC (by omega) (fun r0 up0 le0 wa0 h0 => nm_r (Int32.zero_add r0) (nm_r (e' := nI 1) rfl ?_)))
  refine br_f (by decide) (bx_lcE (site := 1) H hP hC (by omega) (fun r1 up1 le1 wa1 h1 => nm_e (nm_r (e' := nI 2) rfl ?_)))
  refine br_f (by decide) (bx_lcE (site := 2) H hP hC (by omega) (fun r2 up2 le2 wa2 h2 => nm_e (nm_r (e' := nI 3) rfl ?_)))
  refine br_f (by decide) (bx_lcE (site := 3) H hP hC (by omega) (fun r3 up3 le3 wa3 h3 => nm_e (nm_r (e' := nI 4) rfl ?_)))
  exact br_t (by decide) (K r0 r1 r2 r3 up3 le3 wa3 h0 h1 h2 h3)
theorem bq_EvE {r r' : Int32} (H : bq_T c top par on tw) (hco : ∀ i, i < 16 → ∃ k, k ≤ 9 ∧ co i = nI k) (hE : bq_Ev c top on tw code co site (-1) 0 r)
    (hY : ∃ lo mn su, bq_YS c on tw (bq_ok c site code (-1) 0) co ra lo mn su ∧ r' = bq_m4 1000 lo (4 * top) 4) : ∃ q, q ≤ 108 ∧ r = nI q ∧ r' = nI q := by
  obtain ⟨lo, mn, su, h, e⟩ := hY
  obtain ⟨q, a, b, f⟩ := bq_EvF H hco hE h
  exact ⟨q, a, b, e.trans f⟩
theorem bx_ways31 {post : Int32 → SX → Prop} {tp : Nat} {best lc : Int32} (htp : tp < 14) (K : post (bq_cn best le wa (4 * tp) 4) (lc, pa, cd, co, ra, up, le, wa, we, sb)) :
    ∀ r j n, j + r = 4 → r < n → wX_ways_31 post best (nI (4 * tp)) lc pa cd co ra up le wa we sb n (bq_cn best le wa (4 * tp) j) (nI j) := by
  intro r
  induction r with
  | zero =>
    intro j n hj hn
    obtain ⟨n', rfl⟩ : ∃ n', n = n' + 1 := ⟨n - 1, by omega⟩
    obtain rfl : j = 4 := by omega
    exact br_t (by decide) K
  | succ r ih =>
    intro j n hj hn
    obtain ⟨n', rfl⟩ : ∃ n', n = n' + 1 := ⟨n - 1, by omega⟩
    have key := ih (j + 1) n' (by omega) (by omega)
    have hi : vp_in (nI (4 * tp + j)) 56 := pk_in (4 * tp + j) 56 (by omega)
    refine pk_le 4 j (fun q => absurd q (by omega)) (fun _ => ?_)
    rw [nI_add, nI_clamp (by omega)]
    refine ⟨hi, br_c (fun e => ⟨hi, nm_e (nm_r (nI_1 j) ?_)⟩) (fun e => nm_r (nI_1 j) ?_)⟩
    · rw [show bq_cn best le wa (4 * tp) (j + 1) = bq_cn best le wa (4 * tp) j + wa (4 * tp + j) from if_pos e] at key
      exact key
    · rw [show bq_cn best le wa (4 * tp) (j + 1) = bq_cn best le wa (4 * tp) j from if_neg e] at key
      exact key
theorem by_ways21 {post : Int32 → SY → Prop} {tpn : Nat} {best ct : Int32} (htp : tpn < 14) (K : post (bq_cn best lo mn (4 * tpn) 4) (ct, nI tpn, ow, ab, o, t, co, ra, lo, mn, su, ot)) :
    ∀ r j n, j + r = 4 → r < n → wY_ways_21 post best ct (nI tpn) ow ab o t co ra lo mn su ot n (bq_cn best lo mn (4 * tpn) j) (nI j) := by
  intro r
  induction r with
  | zero =>
    intro j n hj hn
    obtain ⟨n', rfl⟩ : ∃ n', n = n' + 1 := ⟨n - 1, by omega⟩
    obtain rfl : j = 4 := by omega
    exact br_t (by decide) K
  | succ r ih =>
    intro j n hj hn
    obtain ⟨n', rfl⟩ : ∃ n', n = n' + 1 := ⟨n - 1, by omega⟩
    have key := ih (j + 1) n' (by omega) (by omega)
    have hi : vp_in (nI (4 * tpn + j)) 64 := pk_in (4 * tpn + j) 64 (by omega)
    refine pk_le 4 j (fun q => absurd q (by omega)) (fun _ => ?_)
    rw [bq_j4, nI_clamp (by omega)]
    refine ⟨hi, br_c (fun e => ⟨hi, nm_e (nm_r (nI_1 j) ?_)⟩) (fun e => nm_r (nI_1 j) ?_)⟩
    · rw [show bq_cn best lo mn (4 * tpn) (j + 1) = bq_cn best lo mn (4 * tpn) j + mn (4 * tpn + j) from if_pos e] at key
      exact key
    · rw [show bq_cn best lo mn (4 * tpn) (j + 1) = bq_cn best lo mn (4 * tpn) j from if_neg e] at key
      exact key
/-- states: the least costs rs, one for each state of x -/
theorem bx_st35 (H : bq_T c top par on tw) (hP : bq_PA c top par pa) (hC : bq_CX c code cd) (hi : site < 4) {x : Nat} {best : Int32} {post : Int32 → SX → Prop}
    (K : ∀ rs : Nat → Int32, (∀ s, s < 4 → bq_Ev c top on tw code co site (nI x) (nI s) (rs s)) → ∀ up' le' wa', post (nI (bq_mk (fun s => decide (rs s = best)) 4)) (nI c, pa, cd, co, ra, up', le', wa', we, sb)) :
    ∀ r j n (rs : Nat → Int32) up le wa, j + r = 4 → r < n → (∀ s, s < j → bq_Ev c top on tw code co site (nI x) (nI s) (rs s)) → wX_states_35 post (nI x) (nI site) best n (nI (bq_mk (fun s => decide (rs s = best)) j)) (nI j) (nI c) pa cd co ra up le wa we sb := by
  intro r
  induction r with
  | zero =>
    intro j n rs up le wa hj hn h
    obtain ⟨n', rfl⟩ : ∃ n', n = n' + 1 := ⟨n - 1, by omega⟩
    obtain rfl : j = 4 := by omega
    exact br_t (by decide) (K rs h up le wa)
  | succ r ih =>
    intro j n rs up le wa hj hn h
    obtain ⟨n', rfl⟩ : ∃ n', n = n' + 1 := ⟨n - 1, by omega⟩
    refine pk_le 4 j (fun q => absurd q (by omega)) (fun _ => ?_)
    refine bx_lcE H hP hC hi (fun v up' le' wa' hE => ?_)
    have key := ih (j + 1) n' (fun i => if i = j then v else rs i) up' le' wa' (by omega) (by omega) (fun s hs => by
      show bq_Ev c top on tw code co site (nI x) (nI s) (if s = j then v else rs s)
      by_cases e : s = j
      · rw [if_pos e, e]
        exact hE
      · rw [if_neg e]
        exact h s (by omega))
    have e1 : bq_mk (fun s => decide ((if s = j then v else rs s) = best)) j = bq_mk (fun s => decide (rs s = best)) j := bq_mk_cg j (fun l hl => by
      show decide ((if l = j then v else rs l) = best) = decide (rs l = best)
      rw [if_neg (by omega)])
    have e2 : bq_mk (fun s => decide ((if s = j then v else rs s) = best)) (j + 1) = bq_mk (fun s => decide (rs s = best)) j + (if v = best then 2 ^ j else 0) := by
      show bq_mk (fun s => decide ((if s = j then v else rs s) = best)) j + (if decide ((if j = j then v else rs j) = best) = true then 2 ^ j else 0) = _
      rw [e1, if_pos rfl]
      by_cases q : v = best
      · rw [decide_eq_true q, if_pos rfl, if_pos q]
      · rw [decide_eq_false q, if_neg (by decide), if_neg q]
    have e3 : bq_mk (fun s => decide ((fun i => if i = j then v else rs i) s = best)) (j + 1) = bq_mk (fun s => decide (rs s = best)) j + (if v = best then 2 ^ j else 0) := e2
    rw [e3] at key
    refine br_c (fun e => ?_) (fun e => nm_r (nI_1 j) ?_)
    · rw [if_pos e] at key
      exact nm_r (bq_or1 j (by omega) _ (bq_mk_lt _ j)).2 (nm_r (nI_1 j) key)
    · rw [if_neg e] at key
      exact key
theorem by_st33 (H : bq_T c top par on tw) (hPC : bq_PC c on tw o t) (hY : bq_CY c code ow) (hco : ∀ i, i < 16 → ∃ k, k ≤ 9 ∧ co i = nI k) (hi : site < 4) {x q : Nat} (hq : q ≤ 108) {rs : Nat → Int32}
    (hE : ∀ s, s < 4 → bq_Ev c top on tw code co site (nI x) (nI s) (rs s)) {post : Int32 → SY → Prop}
    (K : ∀ lo' mn' su', post (nI (bq_mk (fun s => decide (rs s = nI q)) 4)) (nI c, nI top, ow, ab, o, t, co, ra, lo', mn', su', ot)) :
    ∀ r j n lo mn su, j + r = 4 → r < n → wY_states_33 post (nI x) (nI site) (nI q) n (nI (bq_mk (fun s => decide (rs s = nI q)) j)) (nI j) (nI c) (nI top) ow ab o t co ra lo mn su ot := by
  intro r
  induction r with
  | zero =>
    intro j n lo mn su hj hn
    obtain ⟨n', rfl⟩ : ∃ n', n = n' + 1 := ⟨n - 1, by omega⟩
    obtain rfl : j = 4 := by omega
    exact br_t (by decide) (K lo mn su)
  | succ r ih =>
    intro j n lo mn su hj hn
    obtain ⟨n', rfl⟩ : ∃ n', n = n' + 1 := ⟨n - 1, by omega⟩
    refine pk_le 4 j (fun q => absurd q (by omega)) (fun _ => ?_)
    refine by_work H hPC hY hi (fun lo' mn' su' hS => by_bottom (bq_lt14 H (bq_vt H)) ?_)
    have key := ih (j + 1) n' lo' mn' su' (by omega) (by omega)
    have iff := bq_RM_eq hq (bq_EvR H hco (hE j (by omega)) hS)
    have e2 : bq_mk (fun s => decide (rs s = nI q)) (j + 1) = bq_mk (fun s => decide (rs s = nI q)) j + (if rs j = nI q then 2 ^ j else 0) := by
      show bq_mk (fun s => decide (rs s = nI q)) j + (if decide (rs j = nI q) = true then 2 ^ j else 0) = _
      by_cases w : rs j = nI q
      · rw [decide_eq_true w, if_pos rfl, if_pos w]
      · rw [decide_eq_false w, if_neg (by decide), if_neg w]
    rw [e2] at key
    refine br_c (fun e => ?_) (fun e => nm_r (nI_1 j) ?_)
    · rw [if_pos (iff.mpr e)] at key
      exact nm_r (bq_or1 j (by omega) _ (bq_mk_lt _ j)).1 (nm_r (nI_1 j) key)
    · rw [if_neg (fun w => e (iff.mp w))] at key
      exact key
end
theorem i_vc_least {k : Nat} {u : SX} {v : SY} (I : i_Rel k u v) (hk : k + 4 ≤ 2049) (v1 : Int32) : wpX_least (fun r u' => wpY_least (fun r' v' => r' = r ∧ i_Rel (k + 4) u' v') v v1) u v1 := by
  have I' : i_Rel (k + 4) u v := I
  obtain ⟨c, top, par, on, tw, code, pa, cd, co, ra, up, le, wa, we, sb, ow, ab, o, t, lo, mn, su, ot, rfl, rfl, H, hP, hC, hQ, hPC, hY, hco⟩ := I
  unfold wpX_least wpY_least
  dsimp only
  refine bx_isSite v1 (fun s hs e => br_f (by decide) ?_) (fun hn => br_t rfl (by_badState v1 (fun z hz e => absurd e (hn z hz)) (fun _ => br_f (by decide) ⟨rfl, I'⟩)))
  rw [e]
  refine bx_lcE H hP hC hs (fun r up' le' wa' hE => ?_)
  refine by_badState (nI s) (fun _ _ _ => br_t rfl (by_cheap H hPC hY hs (fun lo' mn' su' hS => ⟨?_, bq_mkR H hP hC hQ hPC hY hco⟩))) (fun hn => absurd rfl (hn s hs))
  obtain ⟨q, _, a, b⟩ := bq_EvF H hco hE hS
  rw [a, b]
theorem i_vc_total {k : Nat} {u : SX} {v : SY} (I : i_Rel k u v) (hk : k + 4 ≤ 2049) : wpX_total (fun r u' => wpY_total (fun r' v' => r' = r ∧ i_Rel (k + 4) u' v') v) u := by
  obtain ⟨c, top, par, on, tw, code, pa, cd, co, ra, up, le, wa, we, sb, ow, ab, o, t, lo, mn, su, ot, rfl, rfl, H, hP, hC, hQ, hPC, hY, hco⟩ := I
  refine bx_total H hP hC (fun r0 r1 r2 r3 up' le' wa' h0 h1 h2 h3 => ?_)
  unfold wpY_total
  dsimp only
  refine by_sum H hPC hY (fun q0 q1 q2 q3 lo' mn' su' g0 g1 g2 g3 => ⟨?_, bq_mkR H hP hC hQ hPC hY hco⟩)
  obtain ⟨a0, _, b0, c0⟩ := bq_EvE H hco h0 g0
  obtain ⟨a1, _, b1, c1⟩ := bq_EvE H hco h1 g1
  obtain ⟨a2, _, b2, c2⟩ := bq_EvE H hco h2 g2
  obtain ⟨a3, _, b3, c3⟩ := bq_EvE H hco h3 g3
  rw [b0, b1, b2, b3, c0, c1, c2, c3]
theorem i_vc_ways {k : Nat} {u : SX} {v : SY} (I : i_Rel k u v) (hk : k + 4 ≤ 2049) (v1 : Int32) : wpX_ways (fun r u' => wpY_ways (fun r' v' => r' = r ∧ i_Rel (k + 4) u' v') v v1) u v1 := by
  have I' : i_Rel (k + 4) u v := I
  obtain ⟨c, top, par, on, tw, code, pa, cd, co, ra, up, le, wa, we, sb, ow, ab, o, t, lo, mn, su, ot, rfl, rfl, H, hP, hC, hQ, hPC, hY, hco⟩ := I
  have t14 := bq_lt14 H (bq_vt H)
  unfold wpX_ways wpY_ways
  dsimp only
  refine bx_isSite v1 (fun s hs e => br_f (by decide) ?_) (fun hn => br_t rfl (by_badState v1 (fun z hz e => absurd e (hn z hz)) (fun _ => br_f (by decide) ⟨rfl, I'⟩)))
  rw [e]
  refine bx_leastCost H hP hC hs (fun up' le' wa' hX => ?_)
  refine bx_root H hP (nm_r (bq_k4 top) ⟨5, bx_ways31 t14 ?_ 4 0 5 rfl (by omega)⟩)
  refine by_badState (nI s) (fun _ _ _ => br_t rfl (by_cheap H hPC hY hs (fun lo' mn' su' hS => ⟨5, by_ways21 t14 ⟨?_, bq_mkR H hP hC hQ hPC hY hco⟩ 4 0 5 rfl (by omega)⟩))) (fun hn => absurd rfl (hn s hs))
  obtain ⟨q, hq, a, b⟩ := bq_EvF H hco ⟨le', wa', hX, rfl⟩ hS
  rw [a, b]
  exact (bq_cn_eq (bq_n_le top) hq (bq_rel H hco hX hS top (bq_vt H)) 4 (Nat.le_refl _)).symm
theorem i_vc_states {k : Nat} {u : SX} {v : SY} (I : i_Rel k u v) (hk : k + 4 ≤ 2049) (v1 : Int32) (v2 : Int32) : wpX_states (fun r u' => wpY_states (fun r' v' => r' = r ∧ i_Rel (k + 4) u' v') v v1 v2) u v1 v2 := by
  have I' : i_Rel (k + 4) u v := I
  obtain ⟨c, top, par, on, tw, code, pa, cd, co, ra, up, le, wa, we, sb, ow, ab, o, t, lo, mn, su, ot, rfl, rfl, H, hP, hC, hQ, hPC, hY, hco⟩ := I
  have c7 := bq_c7 H
  unfold wpX_states wpY_states
  dsimp only
  refine bx_isNode c7 v1 (fun x hx e => br_f (by decide) ?_) (fun hn => br_t rfl (by_bad c7 v1 (fun z hz e => absurd e (hn z hz)) (fun _ => br_f (by decide) ⟨rfl, I'⟩)))
  rw [e]
  refine bx_isSite v2 (fun s hs e2 => br_f (by decide) ?_) (fun hn => br_t rfl (by_bad_y c7 hx (br_t rfl (by_badState v2 (fun z hz e => absurd e (hn z hz)) (fun _ => br_f (by decide) ⟨rfl, I'⟩)))))
  rw [e2]
  refine bx_lcE H hP hC hs (fun best up0 le0 wa0 hB => ?_)
  refine ⟨5, bx_st35 H hP hC hs (fun rs hE up' le' wa' => ?_) 4 0 5 (fun _ => 0) up0 le0 wa0 rfl (by omega) (fun s h => absurd h (by omega))⟩
  refine by_bad_y c7 hx (br_t rfl (by_badState (nI s) (fun _ _ _ => br_t rfl (by_cheap H hPC hY hs (fun lo1 mn1 su1 hS => ?_))) (fun hn => absurd rfl (hn s hs))))
  obtain ⟨q, hq, a, b⟩ := bq_EvF H hco hB hS
  rw [b]
  refine ⟨5, by_st33 H hPC hY hco hs hq hE (fun lo' mn' su' => ⟨?_, bq_mkR H hP hC hQ hPC hY hco⟩) 4 0 5 lo1 mn1 su1 rfl (by omega)⟩
  rw [a]
theorem i_vc_weight {k : Nat} {u : SX} {v : SY} (I : i_Rel k u v) (hk : k + 4 ≤ 2049) (v1 : Int32) : wpX_weight (fun r u' => wpY_weight (fun r' v' => r' = r ∧ i_Rel (k + 4) u' v') v v1) u v1 := by
  have I' : i_Rel (k + 4) u v := I
  obtain ⟨c, top, par, on, tw, code, pa, cd, co, ra, up, le, wa, we, sb, ow, ab, o, t, lo, mn, su, ot, rfl, rfl, H, hP, hC, hQ, hPC, hY, hco⟩ := I
  have t14 := bq_lt14 H (bq_vt H)
  unfold wpY_weight
  dsimp only
  refine bx_weight H hP hC (fun hn => by_badState v1 (fun z hz e => absurd e (hn z hz)) (fun _ => br_f (by decide) ⟨rfl, I'⟩)) (fun s hs e up' we' hX => ?_)
  rw [e]
  refine by_badState (nI s) (fun _ _ _ => br_t rfl (by_work H hPC hY hs (fun lo' mn' su' hS => ?_))) (fun hn => absurd rfl (hn s hs))
  have e0 : 4 * nI top = nI (4 * top) := by
    rw [show (4 : Int32) = nI 4 from rfl, pk_mul]
  have e1 : nI (4 * top) + 1 = nI (4 * top + 1) := nI_add (4 * top) 1
  have e2 : nI (4 * top) + 2 = nI (4 * top + 2) := nI_add (4 * top) 2
  have e3 : nI (4 * top) + 3 = nI (4 * top + 3) := nI_add (4 * top) 3
  dsimp only
  rw [e0, e1, e2, e3]
  refine ⟨pk_in (4 * top) 64 (by omega), pk_in (4 * top + 1) 64 (by omega), pk_in (4 * top + 2) 64 (by omega), pk_in (4 * top + 3) 64 (by omega), ?_, bq_mkR H hP hC hQ hPC hY hco⟩
  rw [nI_clamp (by omega), nI_clamp (by omega), nI_clamp (by omega), nI_clamp (by omega)]
  have w := bq_weq H hX hS top (bq_vt H)
  have w0 := w 0 (by omega)
  rw [← w 1 (by omega), ← w 2 (by omega), ← w 3 (by omega)]
  show _ = 0 + we' (4 * top + 0) + we' (4 * top + 1) + we' (4 * top + 2) + we' (4 * top + 3)
  rw [w0, Int64.zero_add]
  rfl
end
section
/-! bestPlace -/
theorem bq_bp_cg {c : Nat} {S S' : Nat → Int32} : ∀ j, (∀ i, i < j → S i = S' i) → bq_bp c S j = bq_bp c S' j := by
  intro j
  induction j with
  | zero => intro _; rfl
  | succ j ih =>
    intro h
    simp only [bq_bp]
    rw [ih (fun i hi => h i (by omega)), h j (by omega)]
/-- r is the total, as the component gets it, of the tree with a leaf of code cde beside z -/
def bq_Et (c top : Nat) (par on tw code : Nat → Nat) (co : Nat → Int32) (cde z : Nat) (r : Int32) : Prop :=
  ∃ r0 r1 r2 r3, bq_Ev (c + 1) (bq_aT c z top) (bq_aO c z top par on) (bq_aW c z top par tw) (bq_up code c cde) co 0 (-1) 0 r0 ∧
    bq_Ev (c + 1) (bq_aT c z top) (bq_aO c z top par on) (bq_aW c z top par tw) (bq_up code c cde) co 1 (-1) 0 r1 ∧
    bq_Ev (c + 1) (bq_aT c z top) (bq_aO c z top par on) (bq_aW c z top par tw) (bq_up code c cde) co 2 (-1) 0 r2 ∧
    bq_Ev (c + 1) (bq_aT c z top) (bq_aO c z top par on) (bq_aW c z top par tw) (bq_up code c cde) co 3 (-1) 0 r3 ∧ r = r0 + r1 + r2 + r3
section
variable {c top cde : Nat} {par on tw code : Nat → Nat} {pa cd co ra up le wa : Nat → Int32} {we : Nat → Int64} {sb ow ab o t lo mn : Nat → Int32} {su : Nat → Int64} {ot : Nat → Int32}
/-- attach and back: the parents as before -/
theorem bq_PA_b {z : Nat} (hz : bq_V c z) (hc : c < 7) (hP : bq_PA c top par pa) {w : Int32} (hw : w = bq_en top par z) : bq_PA c top par (upd (upd (upd (upd pa (7 + c) (pa z)) z (nI (7 + c))) c (nI (7 + c))) z w) := by
  intro y hy
  have hy' : y < c ∨ (8 ≤ y ∧ y < 7 + c) := hy
  by_cases e : y = z
  · rw [e, pk_us]
    exact hw
  · rw [pk_un e, pk_un (by omega), pk_un e, pk_un (by omega)]
    exact hP y hy
theorem bx_rem {z : Nat} (hz : bq_V c z) (hc : c < 7) {post : SX → Prop}
    (K : post (nI c, upd (upd (upd (upd pa (7 + c) (pa z)) z (nI (7 + c))) c (nI (7 + c))) z (pa z), cd, co, ra, up, le, wa, we, sb)) :
    wpX_removeNewestLeafBeside post (nI (c + 1), upd (upd (upd pa (7 + c) (pa z)) z (nI (7 + c))) c (nI (7 + c)), cd, co, ra, up, le, wa, we, sb) (nI z) := by
  have hz' : z < c ∨ (8 ≤ z ∧ z < 7 + c) := hz
  have z14 := bq_V14 (show c ≤ 7 by omega) hz
  have e1 : (upd (upd (upd pa (7 + c) (pa z)) z (nI (7 + c))) c (nI (7 + c))) z = nI (7 + c) := by
    rw [pk_un (by omega), pk_us]
  have e2 : (upd (upd (upd pa (7 + c) (pa z)) z (nI (7 + c))) c (nI (7 + c))) (7 + c) = pa z := by
    rw [pk_un (by omega), pk_un (by omega), pk_us]
  unfold wpX_removeNewestLeafBeside
  dsimp only
  rw [nI_clamp (show z < 2 ^ 31 by omega), e1, nI_clamp (show 7 + c < 2 ^ 31 by omega), e2]
  exact ⟨pk_in z 14 z14, pk_in (7 + c) 14 (by omega), pk_in z 14 z14, nm_e (nm_r (nI_pred c) K)⟩
theorem bx_bp30 (H : bq_T c top par on tw) (hc : c < 7) (h256 : cde < 256) {post : Int32 → SX → Prop}
    (K : ∀ S pa cd up le wa, bq_PA c top par pa → bq_CX c code cd → (∀ z, bq_V c z → bq_Et c top par on tw code co cde z (S z)) → post (bq_bp c S 14).1 (nI c, pa, cd, co, ra, up, le, wa, we, sb)) :
    ∀ r j n (S : Nat → Int32) pa cd up le wa, j + r = 14 → r < n → bq_PA c top par pa → bq_CX c code cd → (∀ z, z < j → bq_V c z → bq_Et c top par on tw code co cde z (S z)) →
      wX_bestPlace_30 post (nI cde) n (bq_bp c S j).1 (bq_bp c S j).2 (nI j) (nI c) pa cd co ra up le wa we sb := by
  have c7 := bq_c7 H
  intro r
  induction r with
  | zero =>
    intro j n S pa cd up le wa hj hn hP hC hE
    obtain ⟨n', rfl⟩ : ∃ n', n = n' + 1 := ⟨n - 1, by omega⟩
    obtain rfl : j = 14 := by omega
    exact br_t (by decide) (K S pa cd up le wa hP hC (fun z hz => hE z (bq_lt14 H hz) hz))
  | succ r ih =>
    intro j n S pa cd up le wa hj hn hP hC hE
    obtain ⟨n', rfl⟩ : ∃ n', n = n' + 1 := ⟨n - 1, by omega⟩
    refine pk_le 14 j (fun q => absurd q (by omega)) (fun _ => ?_)
    by_cases hv : bq_V c j
    · refine bx_isNode_y c7 hv (br_f (by decide) (bx_add hc hv ?_))
      refine bx_total (bq_aH H hc hv) (bq_aPA H hc hv hP) (bq_CX_u (by omega) hC h256) (fun r0 r1 r2 r3 up' le' wa' h0 h1 h2 h3 => ?_)
      refine bx_rem hv hc ?_
      have key := ih (j + 1) n' (fun i => if i = j then r0 + r1 + r2 + r3 else S i) _ (upd cd c (nI cde)) up' le' wa' (by omega) (by omega) (bq_PA_b hv hc hP (hP j hv)) (fun l hl => by
        rw [pk_un (by omega)]
        exact hC l hl) (fun z hz hzv => by
        show bq_Et c top par on tw code co cde z (if z = j then r0 + r1 + r2 + r3 else S z)
        by_cases e : z = j
        · rw [if_pos e, e]
          exact ⟨r0, r1, r2, r3, h0, h1, h2, h3, rfl⟩
        · rw [if_neg e]
          exact hE z (by omega) hzv)
      have e1 : bq_bp c (fun i => if i = j then r0 + r1 + r2 + r3 else S i) j = bq_bp c S j := bq_bp_cg j (fun i hi => by
        show (if i = j then r0 + r1 + r2 + r3 else S i) = S i
        rw [if_neg (by omega)])
      have e2 : bq_bp c (fun i => if i = j then r0 + r1 + r2 + r3 else S i) (j + 1) = (if r0 + r1 + r2 + r3 < (bq_bp c S j).2 then (nI j, r0 + r1 + r2 + r3) else bq_bp c S j) := by
        show (if j < c ∨ (8 ≤ j ∧ j < 7 + c) then (if (if j = j then r0 + r1 + r2 + r3 else S j) < (bq_bp c (fun i => if i = j then r0 + r1 + r2 + r3 else S i) j).2 then (nI j, (if j = j then r0 + r1 + r2 + r3 else S j)) else bq_bp c (fun i => if i = j then r0 + r1 + r2 + r3 else S i) j) else bq_bp c (fun i => if i = j then r0 + r1 + r2 + r3 else S i) j) = _
        rw [if_pos (show j < c ∨ (8 ≤ j ∧ j < 7 + c) from hv), e1, if_pos rfl]
      rw [e2] at key
      refine br_c (fun h => nm_r (nI_1 j) ?_) (fun h => nm_r (nI_1 j) ?_)
      · rw [if_neg (Int32.not_lt.mpr h)] at key
        exact key
      · rw [if_pos (Int32.not_le.mp h)] at key
        exact key
    · have e2 : bq_bp c S (j + 1) = bq_bp c S j := if_neg hv
      have key := ih (j + 1) n' S pa cd up le wa (by omega) (by omega) hP hC (fun z hz hzv => by
        by_cases e : z = j
        · rw [e] at hzv
          exact absurd hzv hv
        · exact hE z (by omega) hzv)
      rw [e2] at key
      exact bx_isNode_n c7 hv (by omega) (br_t rfl (nm_r (nI_1 j) key))
/-- attach and back: the children as before -/
theorem bq_PC_b {z : Nat} (hz : bq_V c z) (hc : c < 7) (n7 : 7 + c ≠ top) (f : Nat → Nat) (hf : ∀ p, 8 ≤ p → p < 7 + c → f p < 7 + c) (v : Nat) :
    ∀ p, 8 ≤ p → p < 7 + c → (if 7 + c = bq_aT c z top then bq_up (if z = top then f else bq_ra (par z) z (7 + c) f) (7 + c) v else bq_ra (bq_aP c z par (7 + c)) (7 + c) z (bq_up (if z = top then f else bq_ra (par z) z (7 + c) f) (7 + c) v)) p = f p := by
  have hz' : z < c ∨ (8 ≤ z ∧ z < 7 + c) := hz
  intro p h8 h7
  have fp := hf p h8 h7
  have eP : bq_aP c z par (7 + c) = par z := by
    rw [bq_aP, bq_un (by omega), bq_un (by omega), bq_us]
  rw [eP]
  by_cases e : z = top
  · rw [bq_aT, if_pos e, if_pos rfl, if_pos e, bq_un (by omega)]
  · rw [bq_aT, if_neg e, if_neg e]
    rw [if_neg n7]
    by_cases g : p = par z
    · by_cases q : f p = z
      · rw [g] at q ⊢
        rw [q]
        refine bq_ra_g ?_
        rw [bq_un (by omega)]
        exact bq_ra_g q
      · rw [bq_ra_n, bq_un (by omega), bq_ra_n q]
        rw [bq_un (by omega), bq_ra_n q]
        omega
    · rw [bq_ra_o g, bq_un (by omega), bq_ra_o g]
theorem by_bp29 (H : bq_T c top par on tw) (hc : c < 7) (h256 : cde < 256) (hco : ∀ i, i < 16 → ∃ k, k ≤ 9 ∧ co i = nI k) {S : Nat → Int32} (hE : ∀ z, bq_V c z → bq_Et c top par on tw code co cde z (S z)) {post : Int32 → SY → Prop}
    (K : ∀ ow ab o t lo mn su, bq_PA c top par ab → bq_PC c on tw o t → bq_CY c code ow → post (bq_bp c S 14).1 (nI c, nI top, ow, ab, o, t, co, ra, lo, mn, su, ot)) :
    ∀ r j n x2 x3 ow ab o t lo mn su, j + r = 14 → r < n → bq_PA c top par ab → bq_PC c on tw o t → bq_CY c code ow →
      ((bq_bp c S j = (-1, 1000000) ∧ x2 = -1) ∨ (∃ z q, z < 14 ∧ q ≤ 432 ∧ bq_bp c S j = (nI z, nI q) ∧ x2 = nI z ∧ x3 = nI q)) →
      wY_bestPlace_29 post (nI cde) n x2 x3 (nI j) (nI c) (nI top) ow ab o t co ra lo mn su ot := by
  have c7 := bq_c7 H
  intro r
  induction r with
  | zero =>
    intro j n x2 x3 ow ab o t lo mn su hj hn hQ hPC hY hI
    obtain ⟨n', rfl⟩ : ∃ n', n = n' + 1 := ⟨n - 1, by omega⟩
    obtain rfl : j = 14 := by omega
    have e : x2 = (bq_bp c S 14).1 := by
      rcases hI with ⟨a, b⟩ | ⟨z, q, _, _, a, b, _⟩ <;> rw [a, b]
    rw [e]
    exact br_t (by decide) (K ow ab o t lo mn su hQ hPC hY)
  | succ r ih =>
    intro j n x2 x3 ow ab o t lo mn su hj hn hQ hPC hY hI
    obtain ⟨n', rfl⟩ : ∃ n', n = n' + 1 := ⟨n - 1, by omega⟩
    refine pk_le 14 j (fun q => absurd q (by omega)) (fun _ => ?_)
    by_cases hv : bq_V c j
    · have hv' : j < c ∨ (8 ≤ j ∧ j < 7 + c) := hv
      have vt' : top < c ∨ (8 ≤ top ∧ top < 7 + c) := bq_vt H
      refine by_bad_y c7 hv (br_t rfl (by_putIn H hQ hPC hc hv h256 (fun o1 t1 hPC1 => ?_)))
      have H1 := bq_aH H hc hv
      refine by_sum H1 hPC1 (bq_CY_u (by omega) hY) (fun q0 q1 q2 q3 lo1 mn1 su1 g0 g1 g2 g3 => ?_)
      have e7 : (7 + nI (c + 1)) - 1 = nI (7 + c) := by
        rw [show (7 : Int32) = nI 7 from rfl, nI_add, show 7 + (c + 1) = (7 + c) + 1 by omega, nI_pred]
      have hQ1 := bq_aPA H hc hv hQ
      have v7 : bq_V (c + 1) (7 + c) := Or.inr ⟨by omega, by omega⟩
      have n7 : 7 + c ≠ top := by omega
      dsimp only
      rw [e7]
      refine by_repl (c := c + 1) (top := bq_aT c j top) (par := bq_aP c j par) (on := bq_aO c j top par on) (tw := bq_aW c j top par tw) (by omega) (by omega) (hQ1 _ v7) (by omega) hPC1 (fun e => ?_) (fun o2 t2 hPC2 => ?_)
      · have g8 := bq_p8 H1 v7 e
        have g7 := bq_p7 H1 v7 e
        have := bq_lt14 H1 (bq_on H1 g8 g7).1
        exact ⟨g8, g7, bq_pk H1 v7 e, bq_nt H1 g8 g7, by omega⟩
      · have eT : (if 7 + c = bq_aT c j top then j else bq_aT c j top) = top := by
          rw [bq_aT]
          by_cases q : j = top
          · rw [if_pos q, if_pos rfl]
            exact q
          · rw [if_neg q, if_neg n7]
        have eA : bq_en (bq_aT c j top) (bq_aP c j par) (7 + c) = bq_en top par j := by
          rw [← hQ1 _ v7, pk_un (by omega), pk_un (by omega), pk_us]
          exact hQ j hv
        rw [eT, eA]
        have hPC3 : bq_PC c on tw o2 t2 := by
          intro p h8 h7
          obtain ⟨a, b⟩ := hPC2 p h8 (by omega)
          have bo : ∀ p, 8 ≤ p → p < 7 + c → on p < 7 + c := fun p h8 h7 => by
            have : on p < c ∨ (8 ≤ on p ∧ on p < 7 + c) := (bq_on H h8 h7).1
            omega
          have bt : ∀ p, 8 ≤ p → p < 7 + c → tw p < 7 + c := fun p h8 h7 => by
            have : tw p < c ∨ (8 ≤ tw p ∧ tw p < 7 + c) := (bq_tw H h8 h7).1
            omega
          rw [bq_aO, bq_PC_b (top := top) (par := par) hv hc n7 on bo j p h8 h7] at a
          rw [bq_aW, bq_PC_b (top := top) (par := par) hv hc n7 tw bt c p h8 h7] at b
          exact ⟨a, b⟩
        have hQ3 : bq_PA c top par (upd (upd (upd (upd ab (7 + c) (ab j)) j (nI (7 + c))) c (nI (7 + c))) j (bq_en top par j)) := bq_PA_b hv hc hQ rfl
        have hY3 : bq_CY c code (bq_gv ow c cde 0 4) := fun l hl s hs => by
          rw [bq_gv_at c cde 4 0 ow l s (by omega) hs, if_neg (by omega)]
          exact hY l hl s hs
        obtain ⟨r0, r1, r2, r3, h0, h1, h2, h3, er⟩ := hE j hv
        obtain ⟨a0, b0, c0, d0⟩ := bq_EvE H1 hco h0 g0
        obtain ⟨a1, b1, c1, d1⟩ := bq_EvE H1 hco h1 g1
        obtain ⟨a2, b2, c2, d2⟩ := bq_EvE H1 hco h2 g2
        obtain ⟨a3, b3, c3, d3⟩ := bq_EvE H1 hco h3 g3
        have eS : S j = nI (a0 + a1 + a2 + a3) := by
          rw [er, c0, c1, c2, c3, nI_add, nI_add, nI_add]
        have eQ : q0 + q1 + q2 + q3 = nI (a0 + a1 + a2 + a3) := by
          rw [d0, d1, d2, d3, nI_add, nI_add, nI_add]
        rw [eQ]
        have j14 := bq_lt14 H hv
        have e2 : bq_bp c S (j + 1) = (if S j < (bq_bp c S j).2 then (nI j, S j) else bq_bp c S j) := if_pos hv
        refine nm_r (nI_pred c) ?_
        rcases hI with ⟨a, b⟩ | ⟨z, q, z14, hq, a, b, b'⟩
        · rw [b]
          refine br_t (by decide) (nm_r (nI_1 j) (ih (j + 1) n' _ _ _ _ _ _ _ _ _ (by omega) (by omega) hQ3 hPC3 hY3 (Or.inr ⟨j, a0 + a1 + a2 + a3, j14, by omega, ?_, rfl, rfl⟩)))
          rw [e2, a, eS, if_pos]
          exact nI_lt (b := 1000000) (by omega) (by omega)
        · rw [b, b']
          refine br_f (nI_pos (by omega)) (pk_le q (a0 + a1 + a2 + a3) (fun h => nm_r (nI_1 j) (ih (j + 1) n' _ _ _ _ _ _ _ _ _ (by omega) (by omega) hQ3 hPC3 hY3 (Or.inr ⟨z, q, z14, hq, ?_, rfl, rfl⟩))) (fun h => nm_r (nI_1 j) (ih (j + 1) n' _ _ _ _ _ _ _ _ _ (by omega) (by omega) hQ3 hPC3 hY3 (Or.inr ⟨j, a0 + a1 + a2 + a3, j14, by omega, ?_, rfl, rfl⟩))))
          · rw [e2, a, eS, if_neg]
            exact nI_nlt h (by omega)
          · rw [e2, a, eS, if_pos]
            exact nI_lt h (by omega)
    · have e2 : bq_bp c S (j + 1) = bq_bp c S j := if_neg hv
      rw [← e2] at hI
      exact by_bad_n c7 hv (by omega) (br_f (by decide) (nm_r (nI_1 j) (ih (j + 1) n' x2 x3 ow ab o t lo mn su (by omega) (by omega) hQ hPC hY hI)))
end
theorem i_vc_bestPlace {k : Nat} {u : SX} {v : SY} (I : i_Rel k u v) (hk : k + 4 ≤ 2049) (v1 : Int32) : wpX_bestPlace (fun r u' => wpY_bestPlace (fun r' v' => r' = r ∧ i_Rel (k + 4) u' v') v v1) u v1 := by
  have I' : i_Rel (k + 4) u v := I
  obtain ⟨c, top, par, on, tw, code, pa, cd, co, ra, up, le, wa, we, sb, ow, ab, o, t, lo, mn, su, ot, rfl, rfl, H, hP, hC, hQ, hPC, hY, hco⟩ := I
  have c7 := bq_c7 H
  unfold wpX_bestPlace wpY_bestPlace
  dsimp only
  refine bx_isLeafCode v1 (fun cde h256 e => br_f (by decide) ?_) (fun hn => br_t rfl (by_badStates v1 (fun z hz e => absurd e (hn z hz)) (fun _ => br_f (by decide) ⟨rfl, I'⟩)))
  rw [e]
  have Y1 : ∀ {Q : Int32 → Prop}, Q 0 → wpY_badStates Q (nI c, nI top, ow, ab, o, t, co, ra, lo, mn, su, ot) (nI cde) := fun q => by_badStates (nI cde) (fun _ _ _ => q) (fun hn => absurd rfl (hn cde h256))
  refine pk_eq c 7 (fun h => Y1 (br_t rfl (br_f (nI_ge (b := c) (a := 6) (by omega) (by omega)) ⟨rfl, I'⟩))) (fun h => ?_)
  have hc : c < 7 := by omega
  refine ⟨15, bx_bp30 H hc h256 (fun S pa' cd' up' le' wa' hP' hC' hE => ?_) 14 0 15 (fun _ => 0) pa cd up le wa rfl (by omega) hP hC (fun z hz => absurd hz (by omega))⟩
  refine Y1 (br_t rfl (br_t (nI_le (b := 6) (by omega) (by omega)) ⟨15, by_bp29 H hc h256 hco hE (fun ow' ab' o' t' lo' mn' su' hQ' hPC' hY' => ⟨rfl, ?_⟩) 14 0 15 (-1) 0 ow ab o t lo mn su rfl (by omega) hQ hPC hY (Or.inl ⟨rfl, rfl⟩)⟩))
  exact bq_mkR H hP' hC' hQ' hPC' hY' hco
end
section
/-! keptBy -/
theorem bq_szI : ∀ i, i < 7 → ∀ m, m < 128 → (nI m >>> (nI i &&& 31)) &&& 1 = nI (m / 2 ^ i % 2) := by decide +kernel
def bq_sz (m : Nat) : Nat → Nat
  | 0 => 0
  | i + 1 => bq_sz m i + m / 2 ^ i % 2
theorem bq_sz7 (f : Nat → Bool) : bq_sz (bq_mk f 7) 7 = bq_ct f 7 := by
  show 0 + bq_mk f 7 / 1 % 2 + bq_mk f 7 / 2 % 2 + bq_mk f 7 / 4 % 2 + bq_mk f 7 / 8 % 2 + bq_mk f 7 / 16 % 2 + bq_mk f 7 / 32 % 2 + bq_mk f 7 / 64 % 2 = bq_ct f 7
  rw [Nat.div_one, Nat.zero_add]
  exact bq_bit f
/-- the sets before, as the component keeps them: 0 where there is no node -/
def bq_FB (c top : Nat) (par : Nat → Nat) (w : Nat) : Nat := if w < 7 + c then bq_B c top par w else 0
theorem bq_B128 (c top : Nat) (par : Nat → Nat) (w : Nat) : bq_B c top par w < 128 := bq_mk_lt _ 7
theorem bq_FB128 (c top : Nat) (par : Nat → Nat) (w : Nat) : bq_FB c top par w < 128 := by
  rw [bq_FB]
  by_cases h : w < 7 + c
  · rw [if_pos h]
    exact bq_B128 c top par w
  · rw [if_neg h]
    omega
section
variable {c top : Nat} {par on tw par2 on2 tw2 code : Nat → Nat} {pa cd co ra up le wa : Nat → Int32} {we : Nat → Int64} {sb ow ab o t lo mn : Nat → Int32} {su : Nat → Int64} {ot : Nat → Int32}
theorem bq_nV {w : Nat} (hc : c ≤ 7) (h8 : 8 ≤ w) : bq_V c w ↔ w < 7 + c := by
  constructor
  · intro h
    rcases h with q | q <;> omega
  · intro h
    exact Or.inr ⟨h8, h⟩
theorem bx_was3 {F : Nat → Nat} {v : Nat} {lc : Int32} (hF : ∀ w, 8 ≤ w → w < 14 → sb w = nI (F w) ∧ F w < 128) (hv : v < 128) {post : Int32 → Prop} (h1 : bq_hs F v 8 6 = true → post 1) (h0 : ¬ bq_hs F v 8 6 = true → post 0) :
    ∀ r j n, j + r = 14 → 8 ≤ j → r < n → (∀ w, 8 ≤ w → w < j → F w ≠ v) → wX_wasSetBefore_3 post (nI v) lc pa cd co ra up le wa we sb n (nI j) := by
  intro r
  induction r with
  | zero =>
    intro j n hj h8 hn hw
    obtain ⟨n', rfl⟩ : ∃ n', n = n' + 1 := ⟨n - 1, by omega⟩
    refine pk_le 14 j (fun _ => h0 (fun q => ?_)) (fun q => absurd q (by omega))
    obtain ⟨i, a, b, e⟩ := (bq_hs_t 6).mp q
    exact hw i a (by omega) e
  | succ r ih =>
    intro j n hj h8 hn hw
    obtain ⟨n', rfl⟩ : ∃ n', n = n' + 1 := ⟨n - 1, by omega⟩
    obtain ⟨e, b⟩ := hF j h8 (by omega)
    refine pk_le 14 j (fun q => absurd q (by omega)) (fun _ => ⟨pk_in j 14 (by omega), ?_⟩)
    rw [nI_clamp (by omega), e]
    refine pk_eq (F j) v (fun q => h1 ((bq_hs_t 6).mpr ⟨j, h8, by omega, q⟩)) (fun q => nm_r (nI_1 j) (ih (j + 1) n' (by omega) (by omega) (by omega) (fun w a b => ?_)))
    by_cases f : w = j
    · rw [f]
      exact q
    · exact hw w a (by omega)
theorem bx_k17 (H : bq_T c top par on tw) (hP : bq_PA c top par pa) {post : Int32 → SX → Prop} {x1 x2 : Int32}
    (K : ∀ sb', (∀ w, 8 ≤ w → w < 14 → sb' w = nI (bq_FB c top par w)) → wpX_exchangePlaces (fun u => match u with | (f_leafCount_15, a_parentOf_16, a_codeOf_17, a_costOf_18, a_rateOf_19, a_upwards_20, a_leastAt_21, a_waysAt_22, a_weightAt_23, a_setBefore_24) => (∃ n69 : Nat, wX_keptBy_69 post x1 x2 f_leafCount_15 a_parentOf_16 a_codeOf_17 a_costOf_18 a_rateOf_19 a_upwards_20 a_leastAt_21 a_waysAt_22 a_weightAt_23 a_setBefore_24 n69 0 8)) (nI c, pa, cd, co, ra, up, le, wa, we, sb') x1 x2) :
    ∀ r j n sb, j + r = 14 → 8 ≤ j → r < n → (∀ w, 8 ≤ w → w < j → sb w = nI (bq_FB c top par w)) → wX_keptBy_17 post x1 x2 (nI c) n (nI j) pa cd co ra up le wa we sb := by
  have c7 := bq_c7 H
  intro r
  induction r with
  | zero =>
    intro j n sb hj h8 hn hw
    obtain ⟨n', rfl⟩ : ∃ n', n = n' + 1 := ⟨n - 1, by omega⟩
    obtain rfl : j = 14 := by omega
    exact br_t (by decide) (K sb hw)
  | succ r ih =>
    intro j n sb hj h8 hn hw
    obtain ⟨n', rfl⟩ : ∃ n', n = n' + 1 := ⟨n - 1, by omega⟩
    refine pk_le 14 j (fun q => absurd q (by omega)) (fun _ => ?_)
    have G : wX_keptBy_17 post x1 x2 (nI c) n' (nI (j + 1)) pa cd co ra up le wa we (upd sb j (nI (bq_FB c top par j))) := by
      refine ih (j + 1) n' _ (by omega) (by omega) (by omega) (fun w a b => ?_)
      by_cases f : w = j
      · rw [f, pk_us]
      · rw [pk_un f]
        exact hw w a (by omega)
    rw [nI_clamp (by omega)]
    by_cases hv : bq_V c j
    · rw [bq_FB, if_pos ((bq_nV c7 h8).mp hv)] at G
      exact bx_isNode_y c7 hv (br_f (by decide) (bx_set H hP (by omega) ⟨pk_in j 14 (by omega), nm_e (nm_r (nI_1 j) G)⟩))
    · rw [bq_FB, if_neg (fun q => hv ((bq_nV c7 h8).mpr q))] at G
      exact bx_isNode_n c7 hv (by omega) (br_t rfl ⟨pk_in j 14 (by omega), nm_e (nm_r (nI_1 j) G)⟩)
/-- the component's term for node i: F the sets before, G those after -/
def bq_fX (c top : Nat) (F G : Nat → Nat) (i : Nat) : Nat := if i < 7 + c ∧ i ≠ top ∧ bq_hs F (G i) 8 6 = true then 1 else 0
theorem bx_k69 (H : bq_T c top par on tw) (hP : bq_PA c top par pa) {F : Nat → Nat} (hF : ∀ w, 8 ≤ w → w < 14 → sb w = nI (F w) ∧ F w < 128) {post : Int32 → SX → Prop} {x1 x2 : Int32}
    (K : wpX_exchangePlaces (fun u => match u with | (f_leafCount_27, a_parentOf_28, a_codeOf_29, a_costOf_30, a_rateOf_31, a_upwards_32, a_leastAt_33, a_waysAt_34, a_weightAt_35, a_setBefore_36) => (post (nI (bq_sm (bq_fX c top F (bq_B c top par)) 8 6)) (f_leafCount_27, a_parentOf_28, a_codeOf_29, a_costOf_30, a_rateOf_31, a_upwards_32, a_leastAt_33, a_waysAt_34, a_weightAt_35, a_setBefore_36))) (nI c, pa, cd, co, ra, up, le, wa, we, sb) x1 x2) :
    ∀ r i n, i + r = 6 → r < n → wX_keptBy_69 post x1 x2 (nI c) pa cd co ra up le wa we sb n (nI (bq_sm (bq_fX c top F (bq_B c top par)) 8 i)) (nI (8 + i)) := by
  have c7 := bq_c7 H
  intro r
  induction r with
  | zero =>
    intro i n hi hn
    obtain ⟨n', rfl⟩ : ∃ n', n = n' + 1 := ⟨n - 1, by omega⟩
    obtain rfl : i = 6 := by omega
    exact br_t (by decide) K
  | succ r ih =>
    intro i n hi hn
    obtain ⟨n', rfl⟩ : ∃ n', n = n' + 1 := ⟨n - 1, by omega⟩
    have key := ih (i + 1) n' (by omega) (by omega)
    have ei : nI (8 + i) + 1 = nI (8 + (i + 1)) := nI_1 (8 + i)
    have es : bq_sm (bq_fX c top F (bq_B c top par)) 8 (i + 1) = bq_sm (bq_fX c top F (bq_B c top par)) 8 i + bq_fX c top F (bq_B c top par) (8 + i) := rfl
    rw [es] at key
    refine pk_le 14 (8 + i) (fun q => absurd q (by omega)) (fun _ => ?_)
    by_cases hv : bq_V c (8 + i)
    · refine bx_isNode_y c7 hv (br_f (by decide) ⟨pk_in (8 + i) 14 (by omega), ?_⟩)
      rw [nI_clamp (by omega), hP _ hv]
      by_cases et : 8 + i = top
      · rw [show bq_fX c top F (bq_B c top par) (8 + i) = 0 from if_neg (fun q => q.2.1 et), Nat.add_zero] at key
        exact br_t (by rw [et, bq_en_t]) (nm_r ei key)
      · have p14 := bq_lt14 H (bq_pv H hv et)
        refine br_f (by rw [bq_en_n et]; exact bq_nm1 (by omega)) (bx_set H hP (by omega) ?_)
        refine ⟨7, bx_was3 hF (bq_B128 c top par (8 + i)) (fun q => br_f (by decide) ?_) (fun q => br_t rfl ?_) 6 8 7 rfl (by omega) (by omega) (fun w a b => absurd b (by omega))⟩
        · rw [show bq_fX c top F (bq_B c top par) (8 + i) = 1 from if_pos ⟨(bq_nV c7 (by omega)).mp hv, et, q⟩] at key
          exact nm_r (nI_1 _) (nm_r ei key)
        · rw [show bq_fX c top F (bq_B c top par) (8 + i) = 0 from if_neg (fun w => q w.2.2), Nat.add_zero] at key
          exact nm_r (Int32.add_zero _) (nm_r ei key)
    · rw [show bq_fX c top F (bq_B c top par) (8 + i) = 0 from if_neg (fun q => hv ((bq_nV c7 (by omega)).mpr q.1)), Nat.add_zero] at key
      exact bx_isNode_n c7 hv (by omega) (br_t rfl (nm_r ei key))
theorem by_size4 {post : Int32 → Prop} {ct tp : Int32} {m : Nat} (hm : m < 128) (K : post (nI (bq_sz m 7))) :
    ∀ r i n, i + r = 7 → r < n → wY_size_4 post (nI m) ct tp ow ab o t co ra lo mn su ot n (nI (bq_sz m i)) (nI i) := by
  intro r
  induction r with
  | zero =>
    intro i n hi hn
    obtain ⟨n', rfl⟩ : ∃ n', n = n' + 1 := ⟨n - 1, by omega⟩
    obtain rfl : i = 7 := by omega
    exact br_t (by decide) K
  | succ r ih =>
    intro i n hi hn
    obtain ⟨n', rfl⟩ : ∃ n', n = n' + 1 := ⟨n - 1, by omega⟩
    have key := ih (i + 1) n' (by omega) (by omega)
    refine pk_le 7 i (fun q => absurd q (by omega)) (fun _ => nm_r (e' := nI (bq_sz m (i + 1))) ?_ (nm_r (nI_1 i) key))
    rw [bq_szI i (by omega) m hm, nI_add]
    rfl
theorem by_size {post : Int32 → Prop} {ct tp : Int32} {w : Nat} (K : post (nI (bq_n c top par w))) : wpY_size post (ct, tp, ow, ab, o, t, co, ra, lo, mn, su, ot) (nI (bq_B c top par w)) := by
  refine ⟨8, by_size4 (bq_B128 c top par w) ?_ 7 0 8 rfl (by omega)⟩
  rw [bq_B, bq_sz7]
  exact K
theorem by_shared3 (H : bq_T c top par on tw) (hQ : bq_PA c top par ab) {v : Nat} {tp : Int32} (hv : v < 128) {post : Int32 → Prop} (h1 : bq_hs (bq_B c top par) v 8 (c - 1) = true → post 1) (h0 : ¬ bq_hs (bq_B c top par) v 8 (c - 1) = true → post 0) :
    ∀ r j n, j + r = 7 + c → 8 ≤ j → r < n → (∀ w, 8 ≤ w → w < j → bq_B c top par w ≠ v) → wY_shared_3 post (nI v) (nI c) tp ow ab o t co ra lo mn su ot n (nI j) := by
  have c7 := bq_c7 H
  have c1 := bq_c1 H
  have e7 : (7 : Int32) + nI c = nI (7 + c) := nI_add 7 c
  intro r
  induction r with
  | zero =>
    intro j n hj h8 hn hw
    obtain ⟨n', rfl⟩ : ∃ n', n = n' + 1 := ⟨n - 1, by omega⟩
    unfold wY_shared_3
    rw [e7]
    refine pk_le (7 + c) j (fun _ => h0 (fun q => ?_)) (fun q => absurd q (by omega))
    obtain ⟨i, a, b, e⟩ := (bq_hs_t (c - 1)).mp q
    exact hw i a (by omega) e
  | succ r ih =>
    intro j n hj h8 hn hw
    obtain ⟨n', rfl⟩ : ∃ n', n = n' + 1 := ⟨n - 1, by omega⟩
    unfold wY_shared_3
    rw [e7]
    refine pk_le (7 + c) j (fun q => absurd q (by omega)) (fun _ => pk_le 14 j (fun q => absurd q (by omega)) (fun _ => by_below H hQ (by omega) ?_))
    have b := bq_B128 c top par j
    refine pk_eq (bq_B c top par j) v (fun q => h1 ((bq_hs_t (c - 1)).mpr ⟨j, h8, by omega, q⟩)) (fun q => nm_r (nI_1 j) (ih (j + 1) n' (by omega) (by omega) (by omega) (fun w a b => ?_)))
    by_cases f : w = j
    · rw [f]
      exact q
    · exact hw w a (by omega)
theorem by_k42 (H : bq_T c top par on tw) (hQ : bq_PA c top par ab) {post : Int32 → SY → Prop} {x1 x2 tp : Int32}
    (K : ∀ ot', (∀ w, 8 ≤ w → w < 7 + c → ot' w = nI (bq_B c top par w)) → wY_keptBy_76 post x1 x2 (nI c) tp ow ab o t co ra lo mn su ot') :
    ∀ r j n ot, j + r = 7 + c → 8 ≤ j → r < n → (∀ w, 8 ≤ w → w < j → ot w = nI (bq_B c top par w)) → wY_keptBy_42 post x1 x2 (nI c) tp n (nI j) ow ab o t co ra lo mn su ot := by
  have c7 := bq_c7 H
  have e7 : (7 : Int32) + nI c = nI (7 + c) := nI_add 7 c
  intro r
  induction r with
  | zero =>
    intro j n ot hj h8 hn hw
    obtain ⟨n', rfl⟩ : ∃ n', n = n' + 1 := ⟨n - 1, by omega⟩
    unfold wY_keptBy_42
    rw [e7]
    exact pk_le (7 + c) j (fun _ => K ot (fun w a b => hw w a (by omega))) (fun q => absurd q (by omega))
  | succ r ih =>
    intro j n ot hj h8 hn hw
    obtain ⟨n', rfl⟩ : ∃ n', n = n' + 1 := ⟨n - 1, by omega⟩
    unfold wY_keptBy_42
    rw [e7]
    refine pk_le (7 + c) j (fun q => absurd q (by omega)) (fun _ => pk_le 14 j (fun q => absurd q (by omega)) (fun _ => by_below H hQ (by omega) ⟨pk_in j 16 (by omega), ?_⟩))
    rw [nI_clamp (by omega)]
    refine nm_e (nm_r (nI_1 j) (ih (j + 1) n' _ (by omega) (by omega) (by omega) (fun w a b => ?_)))
    by_cases f : w = j
    · rw [f, pk_us]
    · rw [pk_un f]
      exact hw w a (by omega)
/-- the reference's term for node i: F before, G after -/
def bq_fY (c top : Nat) (F G : Nat → Nat) (i : Nat) : Nat := if i ≠ top ∧ bq_hs G (F i) 8 (c - 1) = true then 1 else 0
theorem by_k88 (H : bq_T c top par on tw) (H2 : bq_T c top par2 on2 tw2) (hQ : bq_PA c top par2 ab) {post : Int32 → SY → Prop} {x1 x2 tp : Int32}
    (ho : ∀ w, 8 ≤ w → w < 7 + c → ot w = nI (bq_B c top par w))
    (K : wY_keptBy_148 post x1 x2 (nI (bq_sm (bq_fY c top (bq_B c top par) (bq_B c top par2)) 8 (c - 1))) (nI c) tp ow ab o t co ra lo mn su ot) :
    ∀ r i n, i + r = c - 1 → r < n → wY_keptBy_88 post x1 x2 (nI c) tp ow ab o t co ra lo mn su ot n (nI (bq_sm (bq_fY c top (bq_B c top par) (bq_B c top par2)) 8 i)) (nI (8 + i)) := by
  have c7 := bq_c7 H
  have c1 := bq_c1 H
  have e7 : (7 : Int32) + nI c = nI (7 + c) := nI_add 7 c
  intro r
  induction r with
  | zero =>
    intro i n hi hn
    obtain ⟨n', rfl⟩ : ∃ n', n = n' + 1 := ⟨n - 1, by omega⟩
    unfold wY_keptBy_88
    rw [e7]
    obtain rfl : i = c - 1 := by omega
    exact pk_le (7 + c) (8 + (c - 1)) (fun _ => K) (fun q => absurd q (by omega))
  | succ r ih =>
    intro i n hi hn
    obtain ⟨n', rfl⟩ : ∃ n', n = n' + 1 := ⟨n - 1, by omega⟩
    have key := ih (i + 1) n' (by omega) (by omega)
    have ei : nI (8 + i) + 1 = nI (8 + (i + 1)) := nI_1 (8 + i)
    have es : bq_sm (bq_fY c top (bq_B c top par) (bq_B c top par2)) 8 (i + 1) = bq_sm (bq_fY c top (bq_B c top par) (bq_B c top par2)) 8 i + bq_fY c top (bq_B c top par) (bq_B c top par2) (8 + i) := rfl
    rw [es] at key
    have hv : bq_V c (8 + i) := Or.inr ⟨by omega, by omega⟩
    have vi : vp_in (nI (8 + i)) 16 := pk_in (8 + i) 16 (by omega)
    unfold wY_keptBy_88
    rw [e7]
    refine pk_le (7 + c) (8 + i) (fun q => absurd q (by omega)) (fun _ => pk_le 14 (8 + i) (fun q => absurd q (by omega)) (fun _ => ⟨vi, ?_⟩))
    rw [nI_clamp (by omega), ho _ (by omega) (by omega)]
    refine by_size ?_
    have n7 : bq_n c top par (8 + i) ≤ 7 := bq_n_le (8 + i)
    by_cases et : 8 + i = top
    · have en : bq_n c top par (8 + i) = c := by
        rw [et]
        exact bq_n_top H
      rw [show bq_fY c top (bq_B c top par) (bq_B c top par2) (8 + i) = 0 from if_neg (fun q => q.1 et), Nat.add_zero] at key
      rw [en]
      exact br_t (nI_le (Nat.le_refl _) (by omega)) (nm_r ei key)
    · have en := bq_n_lt H hv et
      refine br_f (nI_ge en (by omega)) ⟨vi, ⟨c, by_shared3 H2 hQ (bq_B128 c top par (8 + i)) (fun q => br_f (by decide) ?_) (fun q => br_t rfl ?_) (c - 1) 8 c (by omega) (by omega) (by omega) (fun w a b => absurd b (by omega))⟩⟩
      · rw [show bq_fY c top (bq_B c top par) (bq_B c top par2) (8 + i) = 1 from if_pos ⟨et, q⟩] at key
        exact nm_r (nI_1 _) (nm_r ei key)
      · rw [show bq_fY c top (bq_B c top par) (bq_B c top par2) (8 + i) = 0 from if_neg (fun w => q w.2), Nat.add_zero] at key
        exact nm_r ei key
theorem bq_sm_tail {f g : Nat → Nat} {a n : Nat} (h : ∀ i, a ≤ i → i < a + n → f i = g i) (h0 : ∀ i, a + n ≤ i → f i = 0) : ∀ m, bq_sm f a (n + m) = bq_sm g a n := by
  intro m
  induction m with
  | zero => exact bq_sm_cg n h
  | succ m ih =>
    show bq_sm f a (n + m) + f (a + (n + m)) = _
    rw [ih, h0 _ (by omega)]
    rfl
theorem bq_count (H : bq_T c top par on tw) (H2 : bq_T c top par2 on2 tw2) : bq_sm (bq_fX c top (bq_FB c top par) (bq_B c top par2)) 8 6 = bq_sm (bq_fY c top (bq_B c top par) (bq_B c top par2)) 8 (c - 1) := by
  have c7 := bq_c7 H
  have c1 := bq_c1 H
  have e1 := bq_sm_tail (f := bq_fX c top (bq_FB c top par) (bq_B c top par2)) (g := fun i => if i ≠ top ∧ bq_hs (bq_B c top par) (bq_B c top par2 i) 8 (c - 1) = true then 1 else 0) (a := 8) (n := c - 1) (fun i h1 h2 => by
    have hz : bq_B c top par2 i ≠ 0 := bq_B_pos H2 (Or.inr ⟨h1, by omega⟩)
    have eh : bq_hs (bq_FB c top par) (bq_B c top par2 i) 8 6 = true ↔ bq_hs (bq_B c top par) (bq_B c top par2 i) 8 (c - 1) = true := by
      rw [bq_hs_t, bq_hs_t]
      constructor
      · intro ⟨w, a, b, e⟩
        rw [bq_FB] at e
        by_cases q : w < 7 + c
        · rw [if_pos q] at e
          exact ⟨w, a, by omega, e⟩
        · rw [if_neg q] at e
          exact absurd e.symm hz
      · intro ⟨w, a, b, e⟩
        refine ⟨w, a, by omega, ?_⟩
        rw [bq_FB, if_pos (by omega)]
        exact e
    show bq_fX c top (bq_FB c top par) (bq_B c top par2) i = (if i ≠ top ∧ bq_hs (bq_B c top par) (bq_B c top par2 i) 8 (c - 1) = true then 1 else 0)
    rw [bq_fX]
    by_cases q : i ≠ top ∧ bq_hs (bq_B c top par) (bq_B c top par2 i) 8 (c - 1) = true
    · rw [if_pos q, if_pos ⟨by omega, q.1, eh.mpr q.2⟩]
    · rw [if_neg q, if_neg (fun w => q ⟨w.2.1, eh.mp w.2.2⟩)]) (fun i h => if_neg (fun w => by omega)) (6 - (c - 1))
  rw [show c - 1 + (6 - (c - 1)) = 6 by omega] at e1
  rw [e1]
  have V : ∀ i, 8 ≤ i → i < 8 + (c - 1) → bq_V c i := fun i a b => Or.inr ⟨a, by omega⟩
  refine bq_kept (F := bq_B c top par) (G := bq_B c top par2) (fun i j a b a' b' e => bq_B_inj H (V i a b) a (V j a' b') a' e) (fun i j a b a' b' e => bq_B_inj H2 (V i a b) a (V j a' b') a' e) (fun i j a b a' b' e => ⟨fun q => ?_, fun q => ?_⟩)
  · rw [q] at e a
    rw [← bq_B_top H H2] at e
    exact bq_B_inj H (V j a' b') a' (bq_vt H) a e
  · rw [q] at e a'
    rw [bq_B_top H H2] at e
    exact (bq_B_inj H2 (bq_vt H) a' (V i a b) a e).symm
theorem bq_upd2 {f : Nat → Int32} {x y : Nat} (xy : x ≠ y) : upd (upd (upd (upd f x (f y)) y (f x)) x ((upd (upd f x (f y)) y (f x)) y)) y ((upd (upd f x (f y)) y (f x)) x) = f := by
  have ex : (upd (upd f x (f y)) y (f x)) x = f y := by rw [pk_un xy, pk_us]
  have ey : (upd (upd f x (f y)) y (f x)) y = f x := pk_us
  rw [ex, ey]
  funext j
  by_cases a : j = y
  · rw [a, pk_us]
  · rw [pk_un a]
    by_cases b : j = x
    · rw [b, pk_us]
    · rw [pk_un b, pk_un a, pk_un b]
theorem bq_wO2 {x y : Nat} (xy : x ≠ y) (f : Nat → Nat) (hf : ∀ p, 8 ≤ p → p < 7 + c → par (f p) = p) : ∀ p, 8 ≤ p → p < 7 + c → bq_wO x y (bq_wP x y par) (bq_wO x y par f) p = f p := by
  intro p h8 h7
  have ex : bq_wP x y par x = par y := by rw [bq_wP, bq_un xy, bq_us]
  have ey : bq_wP x y par y = par x := by rw [bq_wP, bq_us]
  have k := hf p h8 h7
  rw [bq_wO, ex, ey]
  by_cases e : par x = par y
  · rw [if_pos e.symm, bq_wO, if_pos e]
  · rw [if_neg (fun q => e q.symm), bq_wO, if_neg e]
    by_cases a : f p = x
    · rw [a] at k
      have hpy : p ≠ par y := fun q => e (k.trans q)
      have e1 : bq_ra (par x) x y f p = y := by
        rw [k]
        exact bq_ra_g a
      have e2 : bq_ra (par y) y x (bq_ra (par x) x y f) p = y := by
        rw [bq_ra_o hpy]
        exact e1
      have e3 : bq_ra (par y) x y (bq_ra (par y) y x (bq_ra (par x) x y f)) p = y := by
        rw [bq_ra_o hpy]
        exact e2
      rw [a]
      rw [k] at e3 ⊢
      exact bq_ra_g e3
    · by_cases b : f p = y
      · rw [b] at k
        have hpx : p ≠ par x := fun q => e (q.symm.trans k.symm)
        have e1 : bq_ra (par x) x y f p = y := by
          rw [bq_ra_o hpx]
          exact b
        have e2 : bq_ra (par y) y x (bq_ra (par x) x y f) p = x := by
          rw [k]
          exact bq_ra_g e1
        have e3 : bq_ra (par y) x y (bq_ra (par y) y x (bq_ra (par x) x y f)) p = y := by
          rw [k] at e2 ⊢
          exact bq_ra_g e2
        rw [bq_ra_o hpx, b]
        exact e3
      · have e1 : bq_ra (par x) x y f p = f p := bq_ra_n a
        have e2 : bq_ra (par y) y x (bq_ra (par x) x y f) p = f p := by
          rw [bq_ra_n (by rw [e1]; exact b)]
          exact e1
        have e3 : bq_ra (par y) x y (bq_ra (par y) y x (bq_ra (par x) x y f)) p = f p := by
          rw [bq_ra_n (by rw [e2]; exact a)]
          exact e2
        rw [bq_ra_n (by rw [e3]; exact b)]
        exact e3
end
theorem i_vc_keptBy {k : Nat} {u : SX} {v : SY} (I : i_Rel k u v) (hk : k + 4 ≤ 2049) (v1 : Int32) (v2 : Int32) : wpX_keptBy (fun r u' => wpY_keptBy (fun r' v' => r' = r ∧ i_Rel (k + 4) u' v') v v1 v2) u v1 v2 := by
  have I' : i_Rel (k + 4) u v := I
  obtain ⟨c, top, par, on, tw, code, pa, cd, co, ra, up, le, wa, we, sb, ow, ab, o, t, lo, mn, su, ot, rfl, rfl, H, hP, hC, hQ, hPC, hY, hco⟩ := I
  have c7 := bq_c7 H
  have c1 := bq_c1 H
  unfold wpX_keptBy wpY_keptBy
  dsimp only
  refine bx_refuse H hP (fun hn => ?_) (fun x hx e hn => ?_) (fun x y hx hy e e2 a => ?_) (fun x y hx hy e e2 a b => ?_) (fun x y hx hy e e2 a b => ?_)
  · exact br_f (by decide) (by_bad c7 v1 (fun z hz e => absurd e (hn z hz)) (fun _ => br_f (by decide) ⟨rfl, I'⟩))
  · rw [e]
    exact br_f (by decide) (by_bad_y c7 hx (br_t rfl (by_bad c7 v2 (fun z hz e => absurd e (hn z hz)) (fun _ => br_f (by decide) ⟨rfl, I'⟩))))
  · have x14 := bq_lt14 H hx
    rw [e, e2]
    exact br_f (by decide) (by_bad_y c7 hx (br_t rfl (by_bad_y c7 hy (br_t rfl (by_over H hQ (by omega) hy (fun _ => br_f (by decide) ⟨rfl, I'⟩) (fun q => absurd a q))))))
  · have x14 := bq_lt14 H hx
    have y14 := bq_lt14 H hy
    rw [e, e2]
    exact br_f (by decide) (by_bad_y c7 hx (br_t rfl (by_bad_y c7 hy (br_t rfl (by_over H hQ (by omega) hy (fun q => absurd q a) (fun _ => br_t rfl (by_over H hQ (by omega) hx (fun _ => br_f (by decide) ⟨rfl, I'⟩) (fun q => absurd b q))))))))
  · have x14 := bq_lt14 H hx
    have y14 := bq_lt14 H hy
    have xt := bq_ntop H hy a
    have yt := bq_ntop H hx b
    have xy : x ≠ y := fun q => a (by rw [q]; exact bq_A_rf y)
    have H2 := bq_wH H hx hy a b
    rw [e, e2]
    refine br_t rfl ⟨7, bx_k17 H hP (fun sb' hsb => ?_) 6 8 7 sb rfl (by omega) (by omega) (fun w a b => absurd b (by omega))⟩
    refine bx_exch c7 hx hy ⟨7, bx_k69 H2 (bq_wPA H hx hy xt yt hP) (F := bq_FB c top par) (fun w a b => ⟨hsb w a b, bq_FB128 c top par w⟩) ?_ 6 0 7 rfl (by omega)⟩
    refine bx_exch c7 hx hy ?_
    dsimp only
    rw [bq_upd2 xy, bq_count H H2]
    refine by_bad_y c7 hx (br_t rfl (by_bad_y c7 hy (br_t rfl (by_over H hQ (by omega) hy (fun q => absurd q a) (fun _ => br_t rfl (by_over H hQ (by omega) hx (fun q => absurd q b) (fun _ => br_t rfl ⟨c, ?_⟩)))))))
    refine by_k42 H hQ (fun ot' hot => ?_) (c - 1) 8 c ot (by omega) (by omega) (by omega) (fun w a b => absurd b (by omega))
    unfold wY_keptBy_76
    refine by_exch H hQ hPC hx hy xt yt (fun o1 t1 hPC1 => ⟨c, ?_⟩)
    have hQ1 := bq_wPA H hx hy xt yt hQ
    refine by_k88 H H2 hQ1 hot ?_ (c - 1) 0 c (by omega) (by omega)
    unfold wY_keptBy_148
    refine by_exch H2 hQ1 hPC1 hx hy xt yt (fun o2 t2 hPC2 => ⟨rfl, ?_⟩)
    rw [bq_upd2 xy]
    refine bq_mkR H hP hC hQ (fun p h8 h7 => ?_) hY hco
    obtain ⟨q1, q2⟩ := hPC2 p h8 h7
    rw [bq_wO2 xy on (fun p h8 h7 => (bq_on H h8 h7).2.2) p h8 h7] at q1
    rw [bq_wO2 xy tw (fun p h8 h7 => (bq_tw H h8 h7).2.2) p h8 h7] at q2
    exact ⟨q1, q2⟩
end
section
/-! the constructors -/
def bq_ci (i : Nat) : Nat → Int32 := fun j => if j < i then (if j % 5 = 0 then 0 else 1) else 0
def bq_ri (i : Nat) : Nat → Int32 := fun j => if j < i then 1 else 0
theorem bq_ci_0 : (fun _ => 0 : Nat → Int32) = bq_ci 0 := funext fun j => (if_neg (show ¬ j < 0 by omega)).symm
theorem bq_ri_0 : (fun _ => 0 : Nat → Int32) = bq_ri 0 := funext fun j => (if_neg (show ¬ j < 0 by omega)).symm
theorem bq_ci_s {i : Nat} {v : Int32} (hv : v = if i % 5 = 0 then 0 else 1) : upd (bq_ci i) i v = bq_ci (i + 1) := by
  funext j
  by_cases e : j = i
  · rw [e, pk_us, hv]
    exact (if_pos (show i < i + 1 by omega)).symm
  · rw [pk_un e]
    show (if j < i then (if j % 5 = 0 then 0 else 1) else 0) = (if j < i + 1 then (if j % 5 = 0 then 0 else 1) else 0)
    by_cases q : j < i
    · rw [if_pos q, if_pos (show j < i + 1 by omega)]
    · rw [if_neg q, if_neg (show ¬ j < i + 1 by omega)]
theorem bq_ri_s {i : Nat} : upd (bq_ri i) i 1 = bq_ri (i + 1) := by
  funext j
  by_cases e : j = i
  · rw [e, pk_us]
    exact (if_pos (show i < i + 1 by omega)).symm
  · rw [pk_un e]
    show (if j < i then 1 else 0) = (if j < i + 1 then 1 else 0)
    by_cases q : j < i
    · rw [if_pos q, if_pos (by omega)]
    · rw [if_neg q, if_neg (by omega)]
theorem bq_r5 : ∀ i, i < 16 → ((nI i - nI i / 5 * 5 = 0) ↔ i % 5 = 0) := by decide +kernel
section
variable {pa cd up le wa : Nat → Int32} {we : Nat → Int64} {sb ow ab o t co ra lo mn : Nat → Int32} {su : Nat → Int64} {ot : Nat → Int32} {lc ct tp : Int32}
theorem bx_in116 {post : SX → Prop} {J109 : Int32 → (Nat → Int32) → (Nat → Int32) → (Nat → Int32) → (Nat → Int32) → (Nat → Int32) → (Nat → Int32) → (Nat → Int32) → (Nat → Int64) → (Nat → Int32) → Prop} {a : Nat} (ha : a < 4)
    (K : J109 (nI (a + 1)) pa cd (bq_ci (4 * (a + 1))) (bq_ri (4 * (a + 1))) up le wa we sb) :
    ∀ r b n, b + r = 4 → r < n → wX_init_116 post J109 (nI a) lc n (nI b) pa cd (bq_ci (4 * a + b)) (bq_ri (4 * a + b)) up le wa we sb := by
  intro r
  induction r with
  | zero =>
    intro b n hb hn
    obtain ⟨n', rfl⟩ : ∃ n', n = n' + 1 := ⟨n - 1, by omega⟩
    obtain rfl : b = 4 := by omega
    exact br_t (by decide) (nm_r (nI_1 a) K)
  | succ r ih =>
    intro b n hb hn
    obtain ⟨n', rfl⟩ : ∃ n', n = n' + 1 := ⟨n - 1, by omega⟩
    have key := ih (b + 1) n' (by omega) (by omega)
    refine pk_le 4 b (fun q => absurd q (by omega)) (fun _ => ?_)
    have hi : vp_in (nI (4 * a + b)) 16 := pk_in (4 * a + b) 16 (by omega)
    have G : ∀ v, v = (if (4 * a + b) % 5 = 0 then 0 else 1) → wX_init_140 post J109 (wX_init_116 post J109 (nI a) lc n') (nI a) (nI b) v ((nI a * 4) + nI b) lc pa cd (bq_ci (4 * a + b)) (bq_ri (4 * a + b)) up le wa we sb := by
      intro v hv
      unfold wX_init_140
      rw [bq_i4, nI_clamp (by omega), bq_ci_s hv, bq_ri_s]
      exact ⟨hi, nm_e ⟨hi, nm_e (nm_r (nI_1 b) key)⟩⟩
    refine pk_eq a b (fun e => G 0 ?_) (fun e => G 1 ?_)
    · rw [if_pos (by omega)]
    · rw [if_neg (by omega)]
theorem bx_in109 {post : SX → Prop} (K : post (lc, pa, cd, bq_ci 16, bq_ri 16, up, le, wa, we, sb)) :
    ∀ r a n, a + r = 4 → r < n → wX_init_109 post lc n (nI a) pa cd (bq_ci (4 * a)) (bq_ri (4 * a)) up le wa we sb := by
  intro r
  induction r with
  | zero =>
    intro a n ha hn
    obtain ⟨n', rfl⟩ : ∃ n', n = n' + 1 := ⟨n - 1, by omega⟩
    obtain rfl : a = 4 := by omega
    exact br_t (by decide) K
  | succ r ih =>
    intro a n ha hn
    obtain ⟨n', rfl⟩ : ∃ n', n = n' + 1 := ⟨n - 1, by omega⟩
    exact pk_le 4 a (fun q => absurd q (by omega)) (fun _ => ⟨5, bx_in116 (by omega) (ih (a + 1) n' (by omega) (by omega)) 4 0 5 rfl (by omega)⟩)
theorem by_in135 {post : SY → Prop} (K : post (ct, tp, ow, ab, o, t, bq_ci 16, bq_ri 16, lo, mn, su, ot)) :
    ∀ r i n, i + r = 16 → r < n → wY_init_135 post ct tp n (nI i) ow ab o t (bq_ci i) (bq_ri i) lo mn su ot := by
  intro r
  induction r with
  | zero =>
    intro i n hi hn
    obtain ⟨n', rfl⟩ : ∃ n', n = n' + 1 := ⟨n - 1, by omega⟩
    obtain rfl : i = 16 := by omega
    exact br_t (by decide) K
  | succ r ih =>
    intro i n hi hn
    obtain ⟨n', rfl⟩ : ∃ n', n = n' + 1 := ⟨n - 1, by omega⟩
    have key := ih (i + 1) n' (by omega) (by omega)
    have hv : vp_in (nI i) 16 := pk_in i 16 (by omega)
    refine pk_le 16 i (fun q => absurd q (by omega)) (fun _ => ⟨by decide, ?_⟩)
    have G : ∀ v, v = (if i % 5 = 0 then 0 else 1) → wY_init_157 post (wY_init_135 post ct tp n') (nI i) v (nI i) ct tp ow ab o t (bq_ci i) (bq_ri i) lo mn su ot := by
      intro v hv'
      unfold wY_init_157
      rw [nI_clamp (by omega), bq_ci_s hv', bq_ri_s]
      exact ⟨hv, nm_e ⟨hv, nm_e (nm_r (nI_1 i) key)⟩⟩
    refine br_c (fun e => G 0 ?_) (fun e => G 1 ?_)
    · rw [if_pos ((bq_r5 i (by omega)).mp e)]
    · rw [if_neg (fun q => e ((bq_r5 i (by omega)).mpr q))]
theorem by_in114 {post : SY → Prop} (K : ∀ ab', ab' 0 = -1 → post (ct, tp, ow, ab', o, t, bq_ci 16, bq_ri 16, lo, mn, su, ot)) :
    ∀ r i n ab, i + r = 16 → r < n → (1 ≤ i → ab 0 = -1) → wY_init_114 post ct tp n (nI i) ow ab o t (bq_ci 0) (bq_ri 0) lo mn su ot := by
  intro r
  induction r with
  | zero =>
    intro i n ab hi hn h
    obtain ⟨n', rfl⟩ : ∃ n', n = n' + 1 := ⟨n - 1, by omega⟩
    obtain rfl : i = 16 := by omega
    exact br_t (by decide) ⟨17, by_in135 (K ab (h (by omega))) 16 0 17 rfl (by omega)⟩
  | succ r ih =>
    intro i n ab hi hn h
    obtain ⟨n', rfl⟩ : ∃ n', n = n' + 1 := ⟨n - 1, by omega⟩
    refine pk_le 16 i (fun q => absurd q (by omega)) (fun _ => ⟨pk_in i 16 (by omega), ?_⟩)
    rw [nI_clamp (by omega)]
    refine nm_e (nm_r (nI_1 i) (ih (i + 1) n' _ (by omega) (by omega) (fun _ => ?_)))
    by_cases e : 0 = i
    · rw [← e, pk_us]
    · rw [pk_un e]
      exact h (by omega)
theorem by_in105 {post : SY → Prop} {cde : Nat} (h256 : cde < 256) (K : ∀ ab', ab' 0 = -1 → post (ct, tp, bq_gv ow 0 cde 0 4, ab', o, t, bq_ci 16, bq_ri 16, lo, mn, su, ot)) : wY_init_105 post (nI cde) ct tp ow ab o t (bq_ci 0) (bq_ri 0) lo mn su ot := by
  unfold wY_init_105
  refine by_give (l := 0) (by omega) h256 ⟨17, by_in114 K 16 0 17 ab rfl (by omega) (fun q => absurd q (by omega))⟩
theorem bq_R1 {cde : Nat} (h256 : cde < 256) (hp : pa 0 = -1) (hd : cd 0 = nI cde) (ha : ab 0 = -1) : i_Rel 1 (nI 1, pa, cd, bq_ci 16, bq_ri 16, up, le, wa, we, sb) (nI 1, nI 0, bq_gv ow 0 cde 0 4, ab, o, t, bq_ci 16, bq_ri 16, lo, mn, su, ot) := by
  have v0 : ∀ z, bq_V 1 z → z = 0 := fun z h => by
    rcases h with q | q <;> omega
  refine bq_mkR (par := fun _ => 0) (on := fun _ => 0) (tw := fun _ => 0) (code := fun _ => cde) ⟨⟨by omega, by omega, Or.inl (by omega)⟩, fun z hz n => absurd (v0 z hz) n, fun p h8 h7 => absurd h7 (by omega), ⟨fun _ => 0, fun z hz n => absurd (v0 z hz) n⟩⟩ (fun z hz => ?_) (fun l hl => ?_) (fun z hz => ?_) (fun p h8 h7 => absurd h7 (by omega)) (fun l hl s hs => ?_) (fun i hi => ?_)
  · rw [v0 z hz, bq_en_t]
    exact hp
  · rw [show l = 0 by omega]
    exact ⟨h256, hd⟩
  · rw [v0 z hz, bq_en_t]
    exact ha
  · rw [show l = 0 by omega, bq_gv_at 0 cde 4 0 ow 0 s (by omega) hs, if_pos ⟨rfl, by omega, by omega⟩]
  · show ∃ k, k ≤ 9 ∧ (if i < 16 then (if i % 5 = 0 then 0 else 1) else 0) = nI k
    rw [if_pos hi]
    by_cases q : i % 5 = 0
    · rw [if_pos q]
      exact ⟨0, by omega, rfl⟩
    · rw [if_neg q]
      exact ⟨1, by omega, rfl⟩
end
theorem i_vc0 (k0 : Int32) : wpX_init (fun u => wpY_init (fun v => i_Rel 1 u v) k0) k0 := by
  unfold wpX_init
  refine nm_e (bx_isLeafCode k0 (fun cde h256 e => br_f (by decide) (nm_e ⟨5, ?_⟩)) (fun hn => br_t rfl (nm_e ⟨5, ?_⟩)))
  · have L := bx_in109 (lc := nI 1) (pa := upd (fun _ => 0) 0 (-1)) (cd := upd (fun _ => 0) 0 k0) (up := fun _ => 0) (le := fun _ => 0) (wa := fun _ => 0) (we := fun _ => 0) (sb := fun _ => 0) (post := fun u => wpY_init (fun v => i_Rel 1 u v) k0) ?_ 4 0 5 rfl (by omega)
    · have e0 : bq_ci (4 * 0) = (fun _ => 0) := bq_ci_0.symm
      have e1 : bq_ri (4 * 0) = (fun _ => 0) := bq_ri_0.symm
      rw [e0, e1] at L
      exact L
    · rw [e]
      unfold wpY_init
      refine br_f (nI_pos (by omega)) (br_t (nI_le (b := 255) (by omega) (by omega)) ?_)
      have M := by_in105 (ct := nI 1) (tp := nI 0) (ow := fun _ => 0) (ab := fun _ => 0) (o := fun _ => 0) (t := fun _ => 0) (lo := fun _ => 0) (mn := fun _ => 0) (su := fun _ => 0) (ot := fun _ => 0) (post := fun v => i_Rel 1 (nI 1, upd (fun _ => 0) 0 (-1), upd (fun _ => 0) 0 (nI cde), bq_ci 16, bq_ri 16, fun _ => 0, fun _ => 0, fun _ => 0, fun _ => 0, fun _ => 0) v) h256 (fun ab' ha => bq_R1 h256 pk_us pk_us ha)
      rw [← bq_ci_0, ← bq_ri_0] at M
      exact M
  · have L := bx_in109 (lc := nI 1) (pa := upd (fun _ => 0) 0 (-1)) (cd := upd (fun _ => 0) 0 0) (up := fun _ => 0) (le := fun _ => 0) (wa := fun _ => 0) (we := fun _ => 0) (sb := fun _ => 0) (post := fun u => wpY_init (fun v => i_Rel 1 u v) k0) ?_ 4 0 5 rfl (by omega)
    · have e0 : bq_ci (4 * 0) = (fun _ => 0) := bq_ci_0.symm
      have e1 : bq_ri (4 * 0) = (fun _ => 0) := bq_ri_0.symm
      rw [e0, e1] at L
      exact L
    · have M := by_in105 (cde := 0) (ct := nI 1) (tp := nI 0) (ow := fun _ => 0) (ab := fun _ => 0) (o := fun _ => 0) (t := fun _ => 0) (lo := fun _ => 0) (mn := fun _ => 0) (su := fun _ => 0) (ot := fun _ => 0) (post := fun v => i_Rel 1 (nI 1, upd (fun _ => 0) 0 (-1), upd (fun _ => 0) 0 0, bq_ci 16, bq_ri 16, fun _ => 0, fun _ => 0, fun _ => 0, fun _ => 0, fun _ => 0) v) (by omega) (fun ab' ha => bq_R1 (cde := 0) (by omega) pk_us pk_us ha)
      rw [← bq_ci_0, ← bq_ri_0] at M
      unfold wpY_init
      refine br_c (fun h => ?_) (fun h => br_c (fun h2 => ?_) (fun h2 => ?_))
      · unfold wY_init_100
        exact M
      · obtain ⟨j, hj, rfl⟩ := nI_of h
        have := (nI_leI (b := 255) hj (by omega)).mp h2
        exact absurd rfl (hn j (by omega))
      · unfold wY_init_100
        exact M
end
