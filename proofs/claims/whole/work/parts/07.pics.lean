/-! pictures of the tree in the arrays, and what the three changes do to them -/
def bq_up (f : Nat → Nat) (k v : Nat) : Nat → Nat := fun j => if j = k then v else f j
theorem bq_us {f : Nat → Nat} {k v : Nat} : bq_up f k v k = v := if_pos rfl
theorem bq_un {f : Nat → Nat} {k v j : Nat} (h : j ≠ k) : bq_up f k v j = f j := if_neg h
def bq_en (top : Nat) (par : Nat → Nat) (z : Nat) : Int32 := if z = top then -1 else nI (par z)
theorem bq_en_t {top : Nat} {par : Nat → Nat} : bq_en top par top = -1 := if_pos rfl
theorem bq_en_n {top : Nat} {par : Nat → Nat} {z : Nat} (h : z ≠ top) : bq_en top par z = nI (par z) := if_neg h
def bq_PA (c top : Nat) (par : Nat → Nat) (pa : Nat → Int32) : Prop := ∀ z, bq_V c z → pa z = bq_en top par z
def bq_PC (c : Nat) (on tw : Nat → Nat) (o t : Nat → Int32) : Prop := ∀ p, 8 ≤ p → p < 7 + c → o p = nI (on p) ∧ t p = nI (tw p)
def bq_dg (code s : Nat) : Nat := code / 2 ^ (6 - 2 * s) % 4
def bq_CX (c : Nat) (code : Nat → Nat) (cd : Nat → Int32) : Prop := ∀ l, l < c → code l < 256 ∧ cd l = nI (code l)
def bq_CY (c : Nat) (code : Nat → Nat) (ow : Nat → Int32) : Prop := ∀ l, l < c → ∀ s, s < 4 → ow (4 * l + s) = nI (bq_dg (code l) s)
/-- at g alone: x made y -/
def bq_ra (g x y : Nat) (f : Nat → Nat) : Nat → Nat := fun q => if q = g then (if f q = x then y else f q) else f q
theorem bq_ra_g {g x y : Nat} {f : Nat → Nat} (h : f g = x) : bq_ra g x y f g = y := by
  rw [bq_ra, if_pos rfl, if_pos h]
theorem bq_ra_n {g x y q : Nat} {f : Nat → Nat} (h : f q ≠ x) : bq_ra g x y f q = f q := by
  rw [bq_ra]
  by_cases e : q = g
  · rw [if_pos e, if_neg h]
  · rw [if_neg e]
theorem bq_ra_o {g x y q : Nat} {f : Nat → Nat} (h : q ≠ g) : bq_ra g x y f q = f q := if_neg h
theorem bq_PC_1 {c : Nat} {on tw : Nat → Nat} {o t : Nat → Int32} {g x y : Nat} (h : bq_PC c on tw o t) (hx : on g = x) (hne : tw g ≠ x) : bq_PC c (bq_ra g x y on) (bq_ra g x y tw) (upd o g (nI y)) t := by
  intro p h8 h7
  by_cases e : p = g
  · subst e
    rw [pk_us, bq_ra_g hx, bq_ra_n hne]
    exact ⟨rfl, (h p h8 h7).2⟩
  · rw [pk_un e, bq_ra_o e, bq_ra_o e]
    exact h p h8 h7
theorem bq_PC_2 {c : Nat} {on tw : Nat → Nat} {o t : Nat → Int32} {g x y : Nat} (h : bq_PC c on tw o t) (hx : tw g = x) (hne : on g ≠ x) : bq_PC c (bq_ra g x y on) (bq_ra g x y tw) o (upd t g (nI y)) := by
  intro p h8 h7
  by_cases e : p = g
  · subst e
    rw [pk_us, bq_ra_g hx, bq_ra_n hne]
    exact ⟨(h p h8 h7).1, rfl⟩
  · rw [pk_un e, bq_ra_o e, bq_ra_o e]
    exact h p h8 h7
/-- join: p gets the children x and y -/
theorem bq_PC_j {c : Nat} {on tw : Nat → Nat} {o t : Nat → Int32} {p x y : Nat} (h : ∀ q, 8 ≤ q → q < 7 + c → q ≠ p → o q = nI (on q) ∧ t q = nI (tw q)) : bq_PC c (bq_up on p x) (bq_up tw p y) (upd o p (nI x)) (upd t p (nI y)) := by
  intro q h8 h7
  by_cases e : q = p
  · subst e
    rw [pk_us, pk_us, bq_us, bq_us]
    exact ⟨rfl, rfl⟩
  · rw [pk_un e, pk_un e, bq_un e, bq_un e]
    exact h q h8 h7 e
section
variable {c top : Nat} {par on tw : Nat → Nat} {pa : Nat → Int32}
/-- attach: the parents -/
def bq_aP (c x : Nat) (par : Nat → Nat) : Nat → Nat := bq_up (bq_up (bq_up par (7 + c) (par x)) x (7 + c)) c (7 + c)
def bq_aT (c x top : Nat) : Nat := if x = top then 7 + c else top
def bq_aO (c x top : Nat) (par on : Nat → Nat) : Nat → Nat := bq_up (if x = top then on else bq_ra (par x) x (7 + c) on) (7 + c) x
def bq_aW (c x top : Nat) (par tw : Nat → Nat) : Nat → Nat := bq_up (if x = top then tw else bq_ra (par x) x (7 + c) tw) (7 + c) c
theorem bq_aPA (H : bq_T c top par on tw) (hc : c < 7) {x : Nat} (hx : bq_V c x) (h : bq_PA c top par pa) :
    bq_PA (c + 1) (bq_aT c x top) (bq_aP c x par) (upd (upd (upd pa (7 + c) (pa x)) x (nI (7 + c))) c (nI (7 + c))) := by
  have hx' : x < c ∨ (8 ≤ x ∧ x < 7 + c) := hx
  have vt' : top < c ∨ (8 ≤ top ∧ top < 7 + c) := bq_vt H
  have ht : bq_aT c x top = 7 + c ∨ bq_aT c x top = top := by
    rw [bq_aT]
    by_cases e : x = top
    · rw [if_pos e]
      exact Or.inl rfl
    · rw [if_neg e]
      exact Or.inr rfl
  intro z hz
  by_cases e1 : z = c
  · rw [e1, pk_us, bq_en_n (by omega), bq_aP, bq_us]
  by_cases e2 : z = x
  · rw [e2, pk_un (by omega), pk_us, bq_en_n, bq_aP, bq_un (by omega), bq_us]
    rw [bq_aT]
    by_cases e : x = top
    · rw [if_pos e]
      omega
    · rw [if_neg e]
      exact e
  by_cases e3 : z = 7 + c
  · rw [e3, pk_un (by omega), pk_un (by omega), pk_us, h x hx]
    by_cases e : x = top
    · rw [bq_aT, if_pos e, bq_en_t, e, bq_en_t]
    · rw [bq_aT, if_neg e, bq_en_n e, bq_en_n (by omega), bq_aP, bq_un (by omega), bq_un (by omega), bq_us]
  · have hzv : bq_V c z := by
      rcases hz with h | h
      · exact Or.inl (by omega)
      · exact Or.inr ⟨by omega, by omega⟩
    rw [pk_un e1, pk_un e2, pk_un e3, h z hzv]
    by_cases e : x = top
    · rw [bq_aT, if_pos e, bq_en_n (fun q => e2 (q.trans e.symm)), bq_en_n e3, bq_aP, bq_un e1, bq_un e2, bq_un e3]
    · rw [bq_aT, if_neg e]
      by_cases q : z = top
      · rw [q, bq_en_t, bq_en_t]
      · rw [bq_en_n q, bq_en_n q, bq_aP, bq_un e1, bq_un e2, bq_un e3]
theorem bq_aH (H : bq_T c top par on tw) (hc : c < 7) {x : Nat} (hx : bq_V c x) :
    bq_T (c + 1) (bq_aT c x top) (bq_aP c x par) (bq_aO c x top par on) (bq_aW c x top par tw) := by
  have hx' : x < c ∨ (8 ≤ x ∧ x < 7 + c) := hx
  have vt' : top < c ∨ (8 ≤ top ∧ top < 7 + c) := bq_vt H
  refine bq_att H hc hx ?_ ?_ ?_ ?_ ?_ ?_ ?_ ?_ ?_ ?_ ?_ ?_
  · rw [bq_aP, bq_us]
  · rw [bq_aP, bq_un (by omega), bq_us]
  · intro _
    rw [bq_aP, bq_un (by omega), bq_un (by omega), bq_us]
  · intro z hz e _
    have hz' : z < c ∨ (8 ≤ z ∧ z < 7 + c) := hz
    rw [bq_aP, bq_un (by omega), bq_un e, bq_un (by omega)]
  · intro e
    rw [bq_aT, if_pos e]
  · intro e
    rw [bq_aT, if_neg e]
  · rw [bq_aO, bq_us]
  · rw [bq_aW, bq_us]
  · intro p h8 h7 e
    obtain ⟨_, n, q⟩ := bq_on H h8 h7
    rw [e] at n q
    rw [bq_aO, bq_un (by omega), if_neg n, q, bq_ra_g e]
  · intro p h8 h7 e
    rw [bq_aO, bq_un (by omega)]
    by_cases n : x = top
    · rw [if_pos n]
    · rw [if_neg n, bq_ra_n e]
  · intro p h8 h7 e
    obtain ⟨_, n, q⟩ := bq_tw H h8 h7
    rw [e] at n q
    rw [bq_aW, bq_un (by omega), if_neg n, q, bq_ra_g e]
  · intro p h8 h7 e
    rw [bq_aW, bq_un (by omega)]
    by_cases n : x = top
    · rw [if_pos n]
    · rw [if_neg n, bq_ra_n e]
/-- swap: the parents -/
def bq_wP (x y : Nat) (par : Nat → Nat) : Nat → Nat := bq_up (bq_up par x (par y)) y (par x)
def bq_wO (x y : Nat) (par on : Nat → Nat) : Nat → Nat := if par x = par y then on else bq_ra (par y) y x (bq_ra (par x) x y on)
theorem bq_wPA (H : bq_T c top par on tw) {x y : Nat} (hx : bq_V c x) (hy : bq_V c y) (xt : x ≠ top) (yt : y ≠ top) (h : bq_PA c top par pa) :
    bq_PA c top (bq_wP x y par) (upd (upd pa x (pa y)) y (pa x)) := by
  intro z hz
  by_cases e1 : z = y
  · rw [e1, pk_us, h x hx, bq_en_n xt, bq_en_n yt, bq_wP, bq_us]
  by_cases e2 : z = x
  · rw [e2] at e1 ⊢
    rw [pk_un e1, pk_us, h y hy, bq_en_n yt, bq_en_n xt, bq_wP, bq_un e1, bq_us]
  · rw [pk_un e1, pk_un e2, h z hz]
    by_cases q : z = top
    · rw [q, bq_en_t, bq_en_t]
    · rw [bq_en_n q, bq_en_n q, bq_wP, bq_un e1, bq_un e2]
theorem bq_wH (H : bq_T c top par on tw) {x y : Nat} (hx : bq_V c x) (hy : bq_V c y) (h1 : ¬ bq_A top par x y) (h2 : ¬ bq_A top par y x) :
    bq_T c top (bq_wP x y par) (bq_wO x y par on) (bq_wO x y par tw) := by
  have xy : x ≠ y := fun q => h1 (by rw [q]; exact bq_A_rf y)
  by_cases e : par x = par y
  · rw [bq_wO, bq_wO, if_pos e, if_pos e]
    refine bq_same H (fun z hz _ => ?_) (fun p _ _ => Or.inl ⟨rfl, rfl⟩)
    by_cases e1 : z = y
    · rw [e1, bq_wP, bq_us]
      exact e
    by_cases e2 : z = x
    · rw [e2] at e1 ⊢
      rw [bq_wP, bq_un e1, bq_us]
      exact e.symm
    · rw [bq_wP, bq_un e1, bq_un e2]
  · rw [bq_wO, bq_wO, if_neg e, if_neg e]
    have hO : ∀ f : Nat → Nat, (∀ p, 8 ≤ p → p < 7 + c → par (f p) = p) → ∀ p, 8 ≤ p → p < 7 + c →
        (f p = x → bq_ra (par y) y x (bq_ra (par x) x y f) p = y) ∧ (f p = y → bq_ra (par y) y x (bq_ra (par x) x y f) p = x) ∧ (f p ≠ x → f p ≠ y → bq_ra (par y) y x (bq_ra (par x) x y f) p = f p) := by
      intro f hf p h8 h7
      refine ⟨fun q => ?_, fun q => ?_, fun q r => ?_⟩
      · have k := hf p h8 h7
        rw [q] at k
        rw [bq_ra_o (fun r => e (k.trans r)), k, bq_ra_g q]
      · have k := hf p h8 h7
        rw [q] at k
        rw [k]
        refine bq_ra_g ?_
        rw [bq_ra_n (by rw [q]; exact fun r => xy r.symm)]
        exact q
      · rw [bq_ra_n (by rw [bq_ra_n q]; exact r), bq_ra_n q]
    have o := hO on (fun p h8 h7 => (bq_on H h8 h7).2.2)
    have t := hO tw (fun p h8 h7 => (bq_tw H h8 h7).2.2)
    refine bq_swp H hx hy h1 h2 ?_ ?_ ?_ (fun p h8 h7 => (o p h8 h7).1) (fun p h8 h7 => (o p h8 h7).2.1) (fun p h8 h7 => (o p h8 h7).2.2) (fun p h8 h7 => (t p h8 h7).1) (fun p h8 h7 => (t p h8 h7).2.1) (fun p h8 h7 => (t p h8 h7).2.2)
    · rw [bq_wP, bq_un xy, bq_us]
    · rw [bq_wP, bq_us]
    · intro z _ a b _
      rw [bq_wP, bq_un b, bq_un a]
end
