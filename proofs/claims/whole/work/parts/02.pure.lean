/-! the pure side: members of a mask, the least closed set by rounds, the ring of outputs -/
theorem rr_bt1 (k : Nat) : bt 1 k = decide (k = 0) := by
  rcases Nat.lt_or_ge k 32 with h | h
  · exact (by decide +kernel : ∀ k, k < 32 → bt 1 k = decide (k = 0)) k h
  · rw [b_big h, decide_eq_false (by omega)]
theorem rr_one {j : Nat} (hj : j < 32) (i : Nat) : bt ((1 : Int32) <<< (nI j &&& 31)) i = decide (i = j) := by
  rcases Nat.lt_or_ge i 32 with h | h
  · rw [b_shl j hj 1 h, rr_bt1]
    by_cases e : i = j
    · subst e; simp
    · rcases Nat.lt_or_ge i j with h1 | h1
      · rw [decide_eq_false (by omega : ¬ j ≤ i), decide_eq_false e, Bool.false_and]
      · rw [decide_eq_false (by omega : ¬ i - j = 0), decide_eq_false e, Bool.and_false]
  · rw [b_big h, decide_eq_false (by omega)]
/-- the component's test of a member -/
theorem rr_tst (m : Int32) {b : Nat} (hb : b < 32) : (m &&& ((1 : Int32) <<< (nI b &&& 31))) = 0 ↔ bt m b = false := by
  constructor
  · intro h
    have h2 : bt (m &&& ((1 : Int32) <<< (nI b &&& 31))) b = false := by rw [h]; exact b_0 b
    rw [b_and, rr_one hb b, decide_eq_true rfl, Bool.and_true] at h2
    exact h2
  · intro h
    apply b_ext
    intro i hi
    rw [b_and, rr_one hb i, b_0]
    by_cases e : i = b
    · subst e; rw [h, Bool.false_and]
    · rw [decide_eq_false e, Bool.and_false]
/-- a member as 0 or 1 -/
theorem rr_bit (m : Int32) {b : Nat} (hb : b < 32) : ((m >>> (nI b &&& 31)) &&& 1) = if bt m b = true then 1 else 0 := by
  apply b_ext
  intro i hi
  rw [b_and, b_sshr b hb m hi, rr_bt1]
  by_cases e : i = 0
  · subst e
    rw [decide_eq_true rfl, Bool.and_true, if_pos (show b + 0 < 32 from hb), Nat.add_zero]
    by_cases hm : bt m b = true
    · rw [if_pos hm, hm]; decide
    · rw [if_neg hm, b_0]
      cases h : bt m b with
      | true => exact absurd h hm
      | false => rfl
  · rw [decide_eq_false e, Bool.and_false]
    by_cases hm : bt m b = true
    · rw [if_pos hm, rr_bt1, decide_eq_false e]
    · rw [if_neg hm, b_0]
/-- the number of members below n -/
def rr_card (p : Nat → Bool) : Nat → Nat
  | 0 => 0
  | n + 1 => rr_card p n + (if p n = true then 1 else 0)
theorem rr_card_le (p q : Nat → Bool) (h : ∀ b, p b = true → q b = true) : ∀ n, rr_card p n ≤ rr_card q n := by
  intro n
  induction n with
  | zero => exact Nat.le_refl _
  | succ n ih =>
    show rr_card p n + (if p n = true then 1 else 0) ≤ rr_card q n + (if q n = true then 1 else 0)
    by_cases hp : p n = true
    · rw [if_pos hp, if_pos (h n hp)]; omega
    · rw [if_neg hp]; split <;> omega
theorem rr_card_lt (p q : Nat → Bool) (h : ∀ b, p b = true → q b = true) : ∀ n b, b < n → p b = false → q b = true → rr_card p n < rr_card q n := by
  intro n
  induction n with
  | zero => intro b hb; omega
  | succ n ih =>
    intro b hb hp hq
    show rr_card p n + (if p n = true then 1 else 0) < rr_card q n + (if q n = true then 1 else 0)
    rcases Nat.lt_or_ge b n with h1 | h1
    · have h2 := ih b h1 hp hq
      by_cases hpn : p n = true
      · rw [if_pos hpn, if_pos (h n hpn)]; omega
      · rw [if_neg hpn]; split <;> omega
    · have e : b = n := by omega
      subst e
      have h2 := rr_card_le p q h b
      have h3 : ¬ p b = true := by rw [hp]; decide
      rw [if_neg h3, if_pos hq]; omega
theorem rr_card_bd (p : Nat → Bool) : ∀ n, rr_card p n ≤ n := by
  intro n
  induction n with
  | zero => exact Nat.le_refl _
  | succ n ih =>
    show rr_card p n + (if p n = true then 1 else 0) ≤ n + 1
    split <;> omega
theorem rr_card_full (p : Nat → Bool) : ∀ n, n ≤ rr_card p n → ∀ b, b < n → p b = true := by
  intro n
  induction n with
  | zero => intro _ b hb; omega
  | succ n ih =>
    intro hn b hb
    have hn' : n + 1 ≤ rr_card p n + (if p n = true then 1 else 0) := hn
    have h1 := rr_card_bd p n
    by_cases hp : p n = true
    · rw [if_pos hp] at hn'
      rcases Nat.lt_or_ge b n with h2 | h2
      · exact ih (by omega) b h2
      · have e : b = n := by omega
        rw [e]; exact hp
    · rw [if_neg hp] at hn'; omega
/-- closed under the edges -/
def rr_closed (E : Nat → Nat → Prop) (p : Nat → Bool) : Prop := ∀ b t, b < 10 → p b = true → E b t → p t = true
/-- from r, the first b blocks have been widened by: w -/
def rr_mid (E : Nat → Nat → Prop) (r w : Nat → Bool) (b : Nat) : Prop :=
  (∀ c, r c = true → w c = true) ∧ (∀ c t, c < b → r c = true → E c t → w t = true) ∧
  (∀ K : Nat → Bool, (∀ c, r c = true → K c = true) → rr_closed E K → ∀ c, w c = true → K c = true)
theorem rr_mid0 (E : Nat → Nat → Prop) (r : Nat → Bool) : rr_mid E r r 0 :=
  ⟨fun _ h => h, fun c t h => absurd h (Nat.not_lt_zero c), fun K h _ => h⟩
theorem rr_skip {E : Nat → Nat → Prop} {r w : Nat → Bool} {b : Nat} (h : rr_mid E r w b) (hs : ∀ t, r b = true → ¬ E b t) : rr_mid E r w (b + 1) := by
  refine ⟨h.1, fun c t hc hr he => ?_, h.2.2⟩
  rcases Nat.lt_or_ge c b with h1 | h1
  · exact h.2.1 c t h1 hr he
  · have e : c = b := by omega
    subst e
    exact absurd he (hs t hr)
theorem rr_put {E : Nat → Nat → Prop} {r w w' : Nat → Bool} {b : Nat} (h : rr_mid E r w b) (hb : b < 10) (hw : w b = true) (ha : ∀ i, w' i = true ↔ (w i = true ∨ E b i)) : rr_mid E r w' (b + 1) := by
  refine ⟨fun c hc => (ha c).mpr (Or.inl (h.1 c hc)), fun c t hc hr he => ?_, fun K hK hc c hcw => ?_⟩
  · rcases Nat.lt_or_ge c b with h1 | h1
    · exact (ha t).mpr (Or.inl (h.2.1 c t h1 hr he))
    · have e : c = b := by omega
      subst e
      exact (ha t).mpr (Or.inr he)
  · rcases (ha c).mp hcw with h1 | h1
    · exact h.2.2 K hK hc c h1
    · exact hc b c hb (h.2.2 K hK hc b hw) h1
/-- after k rounds -/
def rr_inv (E : Nat → Nat → Prop) (k : Nat) (q : Nat → Bool) : Prop :=
  q 0 = true ∧ (rr_closed E q ∨ k + 1 ≤ rr_card q 10) ∧ (∀ K : Nat → Bool, K 0 = true → rr_closed E K → ∀ c, q c = true → K c = true)
theorem rr_inv0 (E : Nat → Nat → Prop) : rr_inv E 0 (bt 1) := by
  refine ⟨by rw [rr_bt1]; rfl, Or.inr (by decide +kernel), fun K h0 _ c hc => ?_⟩
  rw [rr_bt1] at hc
  have e : c = 0 := of_decide_eq_true hc
  rw [e]; exact h0
theorem rr_invS {E : Nat → Nat → Prop} {k : Nat} {p q : Nat → Bool} (h : rr_inv E k p) (w : rr_mid E p q 10) : rr_inv E (k + 1) q := by
  refine ⟨w.1 0 h.1, ?_, fun K h0 hc => w.2.2 K (h.2.2 K h0 hc) hc⟩
  by_cases hx : ∃ b, b < 10 ∧ p b = false ∧ q b = true
  · obtain ⟨b, hb, h1, h2⟩ := hx
    rcases h.2.1 with hp | hp
    · have h3 := w.2.2 p (fun _ z => z) hp b h2
      rw [h1] at h3
      cases h3
    · have h3 := rr_card_lt p q w.1 10 b hb h1 h2
      exact Or.inr (by omega)
  · left
    intro b t hb hq he
    have hpb : p b = true := by
      cases hh : p b with
      | true => rfl
      | false => exact absurd ⟨b, hb, hh, hq⟩ hx
    exact w.2.1 b t hb hpb he
theorem rr_invC {E : Nat → Nat → Prop} (hE : ∀ b t, E b t → t < 10) {k : Nat} (hk : 9 ≤ k) {q : Nat → Bool} (h : rr_inv E k q) : rr_closed E q := by
  rcases h.2.1 with hp | hp
  · exact hp
  · intro b t _ _ he
    exact rr_card_full q 10 (by omega) t (hE b t he)
theorem rr_uniq {E : Nat → Nat → Prop} (hE : ∀ b t, E b t → t < 10) {k l : Nat} (hk : 9 ≤ k) (hl : 9 ≤ l) {p q : Nat → Bool} (h : rr_inv E k p) (g : rr_inv E l q) (b : Nat) : p b = q b := by
  have h1 := h.2.2 q g.1 (rr_invC hE hl g) b
  have h2 := g.2.2 p h.1 (rr_invC hE hk h) b
  cases hp : p b with
  | true => rw [h1 hp]
  | false =>
    cases hq : q b with
    | true => rw [h2 hq] at hp; cases hp
    | false => rfl
/-- the members below n counted as the programs count -/
def rr_cnt (m : Int32) : Nat → Int32
  | 0 => 0
  | n + 1 => rr_cnt m n + ((m >>> (nI n &&& 31)) &&& 1)
theorem rr_cntE {m m' : Int32} (h : ∀ b, bt m b = bt m' b) : ∀ n, n ≤ 32 → rr_cnt m n = rr_cnt m' n := by
  intro n
  induction n with
  | zero => intro _; rfl
  | succ n ih =>
    intro hn
    show rr_cnt m n + ((m >>> (nI n &&& 31)) &&& 1) = rr_cnt m' n + ((m' >>> (nI n &&& 31)) &&& 1)
    rw [ih (by omega), rr_bit m (by omega), rr_bit m' (by omega), h n]
/-- the ring against the row of newest values -/
def rr_ring (oc : Nat) (R Q : Nat → Int32) : Prop := ∀ j, j < 16 → j < oc → R ((oc - 1 - j) % 16) = Q j
theorem rr_ring0 (R Q : Nat → Int32) : rr_ring 0 R Q := fun j _ h => absurd h (Nat.not_lt_zero j)
/-- the row moved up by one, down to i -/
def rr_mv (Q : Nat → Int32) (i : Nat) : Nat → Int32 := fun x => if i < x ∧ x < 16 then Q (x - 1) else Q x
theorem rr_mv15 (Q : Nat → Int32) : rr_mv Q 15 = Q := by
  funext x
  unfold rr_mv
  rw [if_neg (by omega)]
theorem rr_mvS (Q : Nat → Int32) {i : Nat} (hi : i < 15) : upd (rr_mv Q (i + 1)) (i + 1) (rr_mv Q (i + 1) i) = rr_mv Q i := by
  funext x
  by_cases e : x = i + 1
  · subst e
    rw [pk_us]
    unfold rr_mv
    rw [if_neg (by omega), if_pos (by omega), Nat.add_sub_cancel]
  · rw [pk_un e]
    unfold rr_mv
    by_cases h : i + 1 < x ∧ x < 16
    · rw [if_pos h, if_pos (by omega)]
    · rw [if_neg h, if_neg (by omega)]
/-- the row with a new value in front -/
def rr_push (Q : Nat → Int32) (x : Int32) : Nat → Int32 := upd (rr_mv Q 0) 0 x
theorem rr_ringS {oc : Nat} {R Q : Nat → Int32} (h : rr_ring oc R Q) (x : Int32) : rr_ring (oc + 1) (upd R (oc % 16) x) (rr_push Q x) := by
  intro j hj hjo
  cases j with
  | zero =>
    have e : (oc + 1 - 1 - 0) % 16 = oc % 16 := by omega
    rw [e, pk_us]
    unfold rr_push
    rw [pk_us]
  | succ j =>
    have e : (oc + 1 - 1 - (j + 1)) % 16 ≠ oc % 16 := by omega
    have e2 : oc + 1 - 1 - (j + 1) = oc - 1 - j := by omega
    rw [pk_un e, e2, h j (by omega) (by omega)]
    unfold rr_push
    rw [pk_un (by omega)]
    unfold rr_mv
    rw [if_pos (by omega), Nat.add_sub_cancel]
/-- the edges of the graph, as the component keeps them -/
def rr_E (G P L : Nat → Int32) (b t : Nat) : Prop := G b = 1 ∧ t < 10 ∧ (P b = nI t ∨ L b = nI t)
theorem rr_E10 (G P L : Nat → Int32) : ∀ b t, rr_E G P L b t → t < 10 := fun _ _ h => h.2.1
theorem rr_E0 {G P L : Nat → Int32} {b : Nat} (h : G b = 0) (t : Nat) : ¬ rr_E G P L b t := by
  intro z
  have z1 := z.1
  rw [h] at z1
  exact absurd z1 (by decide)
theorem rr_Ei {G P L : Nat → Int32} {b j l : Nat} (hG : G b = 1) (hP : P b = nI j) (hL : L b = nI l) (hj : j < 10) (hl : l < 10) (i : Nat) : rr_E G P L b i ↔ (i = j ∨ i = l) := by
  unfold rr_E
  rw [hP, hL]
  constructor
  · intro z
    rcases z.2.2 with e | e
    · rw [nI_eq (by omega) (by omega)] at e; exact Or.inl e.symm
    · rw [nI_eq (by omega) (by omega)] at e; exact Or.inr e.symm
  · intro z
    rcases z with e | e
    · subst e; exact ⟨hG, hj, Or.inl rfl⟩
    · subst e; exact ⟨hG, hl, Or.inr rfl⟩
theorem rr_or1 (w : Int32) {j : Nat} (hj : j < 10) (i : Nat) : bt (w ||| ((1 : Int32) <<< (nI j &&& 31))) i = true ↔ (bt w i = true ∨ i = j) := by
  rw [b_or, rr_one (by omega) i, Bool.or_eq_true, decide_eq_true_iff]
theorem rr_or2 (w : Int32) {j l : Nat} (hj : j < 10) (hl : l < 10) (i : Nat) : bt (w ||| (((1 : Int32) <<< (nI j &&& 31)) ||| ((1 : Int32) <<< (nI l &&& 31)))) i = true ↔ (bt w i = true ∨ (i = j ∨ i = l)) := by
  rw [b_or, b_or, rr_one (by omega) i, rr_one (by omega) i, Bool.or_eq_true, Bool.or_eq_true, decide_eq_true_iff, decide_eq_true_iff]
theorem rr_or3 (w : Int32) {j l : Nat} (hj : j < 10) (hl : l < 10) (i : Nat) : bt ((w ||| ((1 : Int32) <<< (nI j &&& 31))) ||| ((1 : Int32) <<< (nI l &&& 31))) i = true ↔ (bt w i = true ∨ (i = j ∨ i = l)) := by
  rw [rr_or1 _ hl i, rr_or1 _ hj i, or_assoc]
