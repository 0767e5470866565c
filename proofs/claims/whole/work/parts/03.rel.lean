/-! the relation, and how it is kept -/
/-- an index within, by comparisons -/
theorem rr_in (x : Int32) {n : Nat} (hn : n < 2 ^ 31) : vp_in x n ↔ ¬ x < 0 ∧ ¬ nI n ≤ x := by
  rw [vp_in_iff, Int32.lt_iff_toInt_lt, Int32.le_iff_toInt_le, nI_toInt hn, show (0 : Int32).toInt = 0 from by decide]
  omega
theorem rr_in1 (x : Int32) {n : Nat} (hn : n + 1 < 2 ^ 31) : vp_in x (n + 1) ↔ ¬ x < 0 ∧ x ≤ nI n := by
  rw [vp_in_iff, Int32.lt_iff_toInt_lt, Int32.le_iff_toInt_le, nI_toInt (by omega), show (0 : Int32).toInt = 0 from by decide]
  omega
theorem rr_cl {x : Int32} {n : Nat} (h : vp_in x n) : x.toNatClampNeg < n := by
  rw [vp_in_iff] at h
  have e : x.toNatClampNeg = x.toInt.toNat := rfl
  omega
/-- a slot that may be carried out -/
def rr_slot (O V W : Nat → Int32) (s : Nat) : Prop :=
  vp_in (V s) 4 ∧ (O s = 0 ∨ (O s = 1 ∧ vp_in (W s) 4) ∨ (O s = 2 ∧ vp_in (W s) 4) ∨ (O s = 3 ∧ vp_in (W s) 4) ∨ O s = 4 ∨ O s = 5)
/-- the end of a block, as the component and the reference keep it -/
def rr_end (G T P L e t p l : Nat → Int32) (b : Nat) : Prop :=
  (G b = 0 ∧ e b = 0) ∨
  (G b = 1 ∧ e b = 1 ∧ vp_in (P b) 10 ∧ p b = P b ∧ L b = P b ∧ T b = 0) ∨
  (G b = 1 ∧ e b = 2 ∧ vp_in (P b) 10 ∧ vp_in (L b) 10 ∧ vp_in (T b) 4 ∧ p b = P b ∧ l b = L b ∧ t b = T b)
def rr_cnts (C : Nat → Int32) : Prop := ∀ b, b < 10 → ∃ c, c ≤ 3 ∧ C b = nI c
def rr_slots (O V W : Nat → Int32) : Prop := ∀ s, s < 30 → rr_slot O V W s
def rr_ends (G T P L e t p l : Nat → Int32) : Prop := ∀ b, b < 10 → rr_end G T P L e t p l b
/-- the component's state -/
abbrev rr_X (oc : Nat) (la : Int32) (A C O V W G T P L N R : Nat → Int32) : SX := (nI oc, la, A, C, O, V, W, G, T, P, L, N, R)
/-- the reference's state -/
abbrev rr_Y (oc : Nat) (la : Int32) (A C O V W e t p l N Q : Nat → Int32) : SY := (nI oc, la, C, O, V, W, e, t, p, l, A, Q, N)
def i_Rel (_ : Nat) (u : SX) (v : SY) : Prop :=
  ∃ (oc : Nat) (la : Int32) (A C O V W G T P L N R e t p l Q : Nat → Int32),
    u = rr_X oc la A C O V W G T P L N R ∧ v = rr_Y oc la A C O V W e t p l N Q ∧
    oc ≤ 900 ∧ rr_cnts C ∧ rr_slots O V W ∧ rr_ends G T P L e t p l ∧ rr_ring oc R Q
theorem rr_mk (k : Nat) {oc : Nat} {la : Int32} {A C O V W G T P L N R e t p l Q : Nat → Int32} (h : oc ≤ 900) (hC : rr_cnts C) (hS : rr_slots O V W) (hE : rr_ends G T P L e t p l) (hR : rr_ring oc R Q) : i_Rel k (rr_X oc la A C O V W G T P L N R) (rr_Y oc la A C O V W e t p l N Q) :=
  ⟨oc, la, A, C, O, V, W, G, T, P, L, N, R, e, t, p, l, Q, rfl, rfl, h, hC, hS, hE, hR⟩
theorem rr_cntsU {C : Nat → Int32} (h : rr_cnts C) (b c : Nat) (hc : c ≤ 3) : rr_cnts (upd C b (nI c)) := by
  intro b' hb'
  by_cases z : b' = b
  · subst z; exact ⟨c, hc, pk_us⟩
  · obtain ⟨c', h1, h2⟩ := h b' hb'
    exact ⟨c', h1, by rw [pk_un z]; exact h2⟩
theorem rr_slotsU {O V W : Nat → Int32} (h : rr_slots O V W) (s : Nat) (o v w : Int32) (hv : vp_in v 4) (ho : o = 0 ∨ (o = 1 ∧ vp_in w 4) ∨ (o = 2 ∧ vp_in w 4) ∨ (o = 3 ∧ vp_in w 4) ∨ o = 4 ∨ o = 5) : rr_slots (upd O s o) (upd V s v) (upd W s w) := by
  intro s' hs'
  by_cases z : s' = s
  · subst z
    unfold rr_slot
    rw [pk_us, pk_us, pk_us]
    exact ⟨hv, ho⟩
  · have h' := h s' hs'
    unfold rr_slot at h' ⊢
    rw [pk_un z, pk_un z, pk_un z]
    exact h'
theorem rr_endsU {G T P L e t p l G' T' P' L' e' t' p' l' : Nat → Int32} (b0 : Nat) (h : rr_ends G T P L e t p l) (h0 : rr_end G' T' P' L' e' t' p' l' b0) (hn : ∀ b, b ≠ b0 → G' b = G b ∧ T' b = T b ∧ P' b = P b ∧ L' b = L b ∧ e' b = e b ∧ t' b = t b ∧ p' b = p b ∧ l' b = l b) : rr_ends G' T' P' L' e' t' p' l' := by
  intro b hb
  by_cases z : b = b0
  · rw [z]; exact h0
  · obtain ⟨a1, a2, a3, a4, a5, a6, a7, a8⟩ := hn b z
    have h' := h b hb
    unfold rr_end at h' ⊢
    rw [a1, a2, a3, a4, a5, a6, a7, a8]
    exact h'
theorem rr_endsStop {G T P L e t p l : Nat → Int32} (b0 : Nat) (h : rr_ends G T P L e t p l) : rr_ends (upd G b0 0) T P L (upd e b0 0) t p l :=
  rr_endsU b0 h (Or.inl ⟨pk_us, pk_us⟩) (fun _ z => ⟨pk_un z, rfl, rfl, rfl, pk_un z, rfl, rfl, rfl⟩)
theorem rr_endsGo {G T P L e t p l : Nat → Int32} (b0 : Nat) (x : Int32) (hx : vp_in x 10) (h : rr_ends G T P L e t p l) : rr_ends (upd G b0 1) (upd T b0 0) (upd P b0 x) (upd L b0 x) (upd e b0 1) t (upd p b0 x) l :=
  rr_endsU b0 h (Or.inr (Or.inl ⟨pk_us, pk_us, by rw [pk_us]; exact hx, by rw [pk_us, pk_us], by rw [pk_us, pk_us], pk_us⟩)) (fun _ z => ⟨pk_un z, pk_un z, pk_un z, pk_un z, pk_un z, rfl, pk_un z, rfl⟩)
theorem rr_endsIf {G T P L e t p l : Nat → Int32} (b0 : Nat) (v x y : Int32) (hv : vp_in v 4) (hx : vp_in x 10) (hy : vp_in y 10) (h : rr_ends G T P L e t p l) : rr_ends (upd G b0 1) (upd T b0 v) (upd P b0 x) (upd L b0 y) (upd e b0 2) (upd t b0 v) (upd p b0 x) (upd l b0 y) :=
  rr_endsU b0 h (Or.inr (Or.inr ⟨pk_us, pk_us, by rw [pk_us]; exact hx, by rw [pk_us]; exact hy, by rw [pk_us]; exact hv, by rw [pk_us, pk_us], by rw [pk_us, pk_us], by rw [pk_us, pk_us]⟩)) (fun _ z => ⟨pk_un z, pk_un z, pk_un z, pk_un z, pk_un z, pk_un z, pk_un z, pk_un z⟩)
theorem i_up {k : Nat} {u : SX} {v : SY} (h : i_Rel k u v) : i_Rel (k + 5) u v := h
theorem rr_z4 : vp_in 0 4 := vp_in_nI (n := 0) (by decide) (by decide)
theorem i_vc0 : wpX_init (fun u => wpY_init (fun v => i_Rel 0 u v)) :=
  rr_mk 0 (oc := 0) (la := -1) (by decide) (fun _ _ => ⟨0, by decide, rfl⟩) (fun _ _ => ⟨rr_z4, Or.inl rfl⟩) (fun _ _ => Or.inl ⟨rfl, rfl⟩) (rr_ring0 _ _)
theorem rr_10 : ¬ (1 : Int32) = 0 := by decide
theorem rr_ne {a b c : Int32} (h : a = b) (hb : ¬ b = c) : ¬ a = c := by rw [h]; exact hb
/-- an op that is known -/
theorem rr_op6 {x : Int32} (h0 : ¬ x < 0) (h5 : x ≤ 5) : x = 0 ∨ x = 1 ∨ x = 2 ∨ x = 3 ∨ x = 4 ∨ x = 5 := by
  obtain ⟨j, hj, rfl⟩ := nI_of2 (x := x) (M := 5) (n := 5) (by decide) h0 h5
  have h : j = 0 ∨ j = 1 ∨ j = 2 ∨ j = 3 ∨ j = 4 ∨ j = 5 := by omega
  rcases h with rfl | rfl | rfl | rfl | rfl | rfl
  · exact Or.inl rfl
  · exact Or.inr (Or.inl rfl)
  · exact Or.inr (Or.inr (Or.inl rfl))
  · exact Or.inr (Or.inr (Or.inr (Or.inl rfl)))
  · exact Or.inr (Or.inr (Or.inr (Or.inr (Or.inl rfl))))
  · exact Or.inr (Or.inr (Or.inr (Or.inr (Or.inr rfl))))
/-- the next place of a block within its three -/
theorem rr_at (b c : Nat) : nI b * 3 + nI c = nI (b * 3 + c) := by
  rw [← nI_add, ← pk_mul]
  rfl
