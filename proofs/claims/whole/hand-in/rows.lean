section
/-! rows pasted from the kit (kit/rows): stores, numbers, branches by naturals, bits -/
theorem pk_us {f : Nat → Int32} {k : Nat} {x : Int32} : upd f k x k = x := if_pos rfl
theorem pk_un {f : Nat → Int32} {k j : Nat} {x : Int32} (h : j ≠ k) : upd f k x j = f j := if_neg h
theorem pk_sub {a b : Nat} (h : b ≤ a) : nI a - nI b = nI (a - b) := by
  obtain ⟨c, rfl⟩ : ∃ c, a = c + b := ⟨a - b, by omega⟩
  rw [← nI_add, Int32.add_sub_cancel, Nat.add_sub_cancel]
theorem pk_m1 (n : Nat) : nI (n + 1) + (-1) = nI n := by
  rw [← nI_1, Int32.add_assoc, show (1 : Int32) + (-1) = 0 from rfl, Int32.add_zero]
theorem pk_mul (a b : Nat) : nI a * nI b = nI (a * b) := (Int32.ofNat_mul a b).symm
theorem pk_div {a d : Nat} (ha : a < 2 ^ 31) (h0 : 0 < d) (hd : d < 2 ^ 31) : nI a / nI d = nI (a / d) := by
  apply Int32.toInt_inj.mp
  rw [lg_idiv_nonneg (by rw [nI_toInt ha]; omega) (by rw [nI_toInt hd]; omega), nI_toInt ha, nI_toInt hd, nI_toInt (Nat.lt_of_le_of_lt (Nat.div_le_self a d) ha)]
  first | rfl | exact (Int.natCast_ediv _ _).symm
theorem pk_rem {a d : Nat} (ha : a < 2 ^ 31) (h0 : 0 < d) (hd : d < 2 ^ 31) : nI a - nI a / nI d * nI d = nI (a % d) := by
  rw [pk_div ha h0 hd, pk_mul, pk_sub (Nat.div_mul_le_self a d)]
  exact congrArg nI (by have := Nat.div_add_mod' a d; omega)
theorem pk_ix (x : Int32) {n : Nat} (hn : n < 2 ^ 31) : x < 0 ∨ nI n ≤ x ∨ ∃ j : Nat, j < n ∧ x = nI j := by
  by_cases h : x < 0
  · exact Or.inl h
  · obtain ⟨j, hj, rfl⟩ := nI_of h
    by_cases h2 : j < n
    · exact Or.inr (Or.inr ⟨j, h2, rfl⟩)
    · exact Or.inr (Or.inl (nI_le (by omega) hj))
theorem pk_le {x y : Int32} {A B : Prop} (a b : Nat) (f : a ≤ b → A) (g : b < a → B) (hx : x = nI a := by rfl) (hy : y = nI b := by rfl) (ha : a < 2 ^ 31 := by omega) (hb : b < 2 ^ 31 := by omega) : (x ≤ y → A) ∧ (¬ x ≤ y → B) := by
  subst hx hy
  rw [nI_leI ha hb]
  exact ⟨f, fun z => g (by omega)⟩
theorem pk_lt {x y : Int32} {A B : Prop} (a b : Nat) (f : a < b → A) (g : b ≤ a → B) (hx : x = nI a := by rfl) (hy : y = nI b := by rfl) (ha : a < 2 ^ 31 := by omega) (hb : b < 2 ^ 31 := by omega) : (x < y → A) ∧ (¬ x < y → B) := by
  subst hx hy
  rw [nI_ltI ha hb]
  exact ⟨f, fun z => g (by omega)⟩
theorem pk_eq {x y : Int32} {A B : Prop} (a b : Nat) (f : a = b → A) (g : a ≠ b → B) (hx : x = nI a := by rfl) (hy : y = nI b := by rfl) (ha : a < 2 ^ 31 := by omega) (hb : b < 2 ^ 31 := by omega) : (x = y → A) ∧ (¬ x = y → B) := by
  subst hx hy
  rw [nI_eq ha hb]
  exact ⟨f, g⟩
theorem pk_in {x : Int32} (n N : Nat) (h : n < N) (hx : x = nI n := by rfl) (hN : N < 2 ^ 31 := by omega) : vp_in x N := by
  subst hx
  exact vp_in_nI h hN
theorem pk_cl {x : Int32} (n : Nat) (hx : x = nI n := by rfl) (h : n < 2 ^ 31 := by omega) : x.toNatClampNeg = n := by
  subst hx
  exact nI_clamp h
def bt (x : Int32) (i : Nat) : Bool := x.toBitVec.getLsbD i
theorem b_ext {x y : Int32} (h : ∀ i, i < 32 → bt x i = bt y i) : x = y := Int32.toBitVec_inj.mp (BitVec.eq_of_getLsbD_eq (fun i hi => h i hi))
theorem b_or (x y : Int32) (i : Nat) : bt (x ||| y) i = (bt x i || bt y i) := by unfold bt; rw [Int32.toBitVec_or, BitVec.getLsbD_or]
theorem b_and (x y : Int32) (i : Nat) : bt (x &&& y) i = (bt x i && bt y i) := by unfold bt; rw [Int32.toBitVec_and, BitVec.getLsbD_and]
theorem b_big {x : Int32} {i : Nat} (h : 32 ≤ i) : bt x i = false := BitVec.getLsbD_of_ge _ _ h
theorem b_0 (i : Nat) : bt 0 i = false := BitVec.getLsbD_zero
theorem s_l : ∀ n, n < 32 → ((nI n &&& 31).toBitVec.smod 32).toNat = n := by decide +kernel
theorem b_shl (n : Nat) (hn : n < 32) (x : Int32) {i : Nat} (hi : i < 32) : bt (x <<< (nI n &&& 31)) i = (decide (n ≤ i) && bt x (i - n)) := by
  unfold bt
  rw [Int32.toBitVec_shiftLeft]
  show (x.toBitVec <<< ((nI n &&& 31).toBitVec.smod 32).toNat).getLsbD i = _
  rw [s_l n hn, BitVec.getLsbD_shiftLeft]
  rcases Nat.lt_or_ge i n with h | h
  · simp [h, Nat.not_le.mpr h]
  · simp [hi, h, Nat.not_lt.mpr h]
theorem b_sshr (n : Nat) (hn : n < 32) (x : Int32) {i : Nat} (hi : i < 32) : bt (x >>> (nI n &&& 31)) i = if n + i < 32 then bt x (n + i) else bt x 31 := by
  unfold bt
  rw [Int32.toBitVec_shiftRight]
  show (x.toBitVec.sshiftRight ((nI n &&& 31).toBitVec.smod 32).toNat).getLsbD i = _
  rw [s_l n hn, BitVec.getLsbD_sshiftRight, BitVec.msb_eq_getLsbD_last]
  simp [hi]
end
section
/-! the pure side: members of a mask, the least closed set by rounds, the ring of outputs -/
theorem rr_bt1 (k : Nat) : bt 1 k = decide (k = 0) := by
  rcases Nat.lt_or_ge k 32 with h | h
  · exact (by decide +kernel : ∀ k, k < 32 → bt 1 k = decide (k = 0)) k h
  · rw [b_big h, decide_eq_false (by omega)]
theorem rr_one {j : Nat} (hj : j < 32) (i : Nat) : bt ((1 : Int32) <<< (nI j &&& 31)) i = decide (i = j) := by
  rcases Nat.lt_or_ge i 32 with h | h
  · rw [b_shl j hj 1 h, rr_bt1]
    by_cases e : i = j
    · subst e; simp
    · rcases Nat.lt_or_ge i j with h1 | h1
      · rw [decide_eq_false (by omega : ¬ j ≤ i), decide_eq_false e, Bool.false_and]
      · rw [decide_eq_false (by omega : ¬ i - j = 0), decide_eq_false e, Bool.and_false]
  · rw [b_big h, decide_eq_false (by omega)]
/-- the component's test of a member -/
theorem rr_tst (m : Int32) {b : Nat} (hb : b < 32) : (m &&& ((1 : Int32) <<< (nI b &&& 31))) = 0 ↔ bt m b = false := by
  constructor
  · intro h
    have h2 : bt (m &&& ((1 : Int32) <<< (nI b &&& 31))) b = false := by rw [h]; exact b_0 b
    rw [b_and, rr_one hb b, decide_eq_true rfl, Bool.and_true] at h2
    exact h2
  · intro h
    apply b_ext
    intro i hi
    rw [b_and, rr_one hb i, b_0]
    by_cases e : i = b
    · subst e; rw [h, Bool.false_and]
    · rw [decide_eq_false e, Bool.and_false]
/-- a member as 0 or 1 -/
theorem rr_bit (m : Int32) {b : Nat} (hb : b < 32) : ((m >>> (nI b &&& 31)) &&& 1) = if bt m b = true then 1 else 0 := by
  apply b_ext
  intro i hi
  rw [b_and, b_sshr b hb m hi, rr_bt1]
  by_cases e : i = 0
  · subst e
    rw [decide_eq_true rfl, Bool.and_true, if_pos (show b + 0 < 32 from hb), Nat.add_zero]
    by_cases hm : bt m b = true
    · rw [if_pos hm, hm]; decide
    · rw [if_neg hm, b_0]
      cases h : bt m b with
      | true => exact absurd h hm
      | false => rfl
  · rw [decide_eq_false e, Bool.and_false]
    by_cases hm : bt m b = true
    · rw [if_pos hm, rr_bt1, decide_eq_false e]
    · rw [if_neg hm, b_0]
/-- the number of members below n -/
def rr_card (p : Nat → Bool) : Nat → Nat
  | 0 => 0
  | n + 1 => rr_card p n + (if p n = true then 1 else 0)
theorem rr_card_le (p q : Nat → Bool) (h : ∀ b, p b = true → q b = true) : ∀ n, rr_card p n ≤ rr_card q n := by
  intro n
  induction n with
  | zero => exact Nat.le_refl _
  | succ n ih =>
    show rr_card p n + (if p n = true then 1 else 0) ≤ rr_card q n + (if q n = true then 1 else 0)
    by_cases hp : p n = true
    · rw [if_pos hp, if_pos (h n hp)]; omega
    · rw [if_neg hp]; split <;> omega
theorem rr_card_lt (p q : Nat → Bool) (h : ∀ b, p b = true → q b = true) : ∀ n b, b < n → p b = false → q b = true → rr_card p n < rr_card q n := by
  intro n
  induction n with
  | zero => intro b hb; omega
  | succ n ih =>
    intro b hb hp hq
    show rr_card p n + (if p n = true then 1 else 0) < rr_card q n + (if q n = true then 1 else 0)
    rcases Nat.lt_or_ge b n with h1 | h1
    · have h2 := ih b h1 hp hq
      by_cases hpn : p n = true
      · rw [if_pos hpn, if_pos (h n hpn)]; omega
      · rw [if_neg hpn]; split <;> omega
    · have e : b = n := by omega
      subst e
      have h2 := rr_card_le p q h b
      have h3 : ¬ p b = true := by rw [hp]; decide
      rw [if_neg h3, if_pos hq]; omega
theorem rr_card_bd (p : Nat → Bool) : ∀ n, rr_card p n ≤ n := by
  intro n
  induction n with
  | zero => exact Nat.le_refl _
  | succ n ih =>
    show rr_card p n + (if p n = true then 1 else 0) ≤ n + 1
    split <;> omega
theorem rr_card_full (p : Nat → Bool) : ∀ n, n ≤ rr_card p n → ∀ b, b < n → p b = true := by
  intro n
  induction n with
  | zero => intro _ b hb; omega
  | succ n ih =>
    intro hn b hb
    have hn' : n + 1 ≤ rr_card p n + (if p n = true then 1 else 0) := hn
    have h1 := rr_card_bd p n
    by_cases hp : p n = true
    · rw [if_pos hp] at hn'
      rcases Nat.lt_or_ge b n with h2 | h2
      · exact ih (by omega) b h2
      · have e : b = n := by omega
        rw [e]; exact hp
    · rw [if_neg hp] at hn'; omega
/-- closed under the edges -/
def rr_closed (E : Nat → Nat → Prop) (p : Nat → Bool) : Prop := ∀ b t, b < 10 → p b = true → E b t → p t = true
/-- from r, the first b blocks have been widened by: w -/
def rr_mid (E : Nat → Nat → Prop) (r w : Nat → Bool) (b : Nat) : Prop :=
  (∀ c, r c = true → w c = true) ∧ (∀ c t, c < b → r c = true → E c t → w t = true) ∧
  (∀ K : Nat → Bool, (∀ c, r c = true → K c = true) → rr_closed E K → ∀ c, w c = true → K c = true)
theorem rr_mid0 (E : Nat → Nat → Prop) (r : Nat → Bool) : rr_mid E r r 0 :=
  ⟨fun _ h => h, fun c t h => absurd h (Nat.not_lt_zero c), fun K h _ => h⟩
theorem rr_skip {E : Nat → Nat → Prop} {r w : Nat → Bool} {b : Nat} (h : rr_mid E r w b) (hs : ∀ t, r b = true → ¬ E b t) : rr_mid E r w (b + 1) := by
  refine ⟨h.1, fun c t hc hr he => ?_, h.2.2⟩
  rcases Nat.lt_or_ge c b with h1 | h1
  · exact h.2.1 c t h1 hr he
  · have e : c = b := by omega
    subst e
    exact absurd he (hs t hr)
theorem rr_put {E : Nat → Nat → Prop} {r w w' : Nat → Bool} {b : Nat} (h : rr_mid E r w b) (hb : b < 10) (hw : w b = true) (ha : ∀ i, w' i = true ↔ (w i = true ∨ E b i)) : rr_mid E r w' (b + 1) := by
  refine ⟨fun c hc => (ha c).mpr (Or.inl (h.1 c hc)), fun c t hc hr he => ?_, fun K hK hc c hcw => ?_⟩
  · rcases Nat.lt_or_ge c b with h1 | h1
    · exact (ha t).mpr (Or.inl (h.2.1 c t h1 hr he))
    · have e : c = b := by omega
      subst e
      exact (ha t).mpr (Or.inr he)
  · rcases (ha c).mp hcw with h1 | h1
    · exact h.2.2 K hK hc c h1
    · exact hc b c hb (h.2.2 K hK hc b hw) h1
/-- after k rounds -/
def rr_inv (E : Nat → Nat → Prop) (k : Nat) (q : Nat → Bool) : Prop :=
  q 0 = true ∧ (rr_closed E q ∨ k + 1 ≤ rr_card q 10) ∧ (∀ K : Nat → Bool, K 0 = true → rr_closed E K → ∀ c, q c = true → K c = true)
theorem rr_inv0 (E : Nat → Nat → Prop) : rr_inv E 0 (bt 1) := by
  refine ⟨by rw [rr_bt1]; rfl, Or.inr (by decide +kernel), fun K h0 _ c hc => ?_⟩
  rw [rr_bt1] at hc
  have e : c = 0 := of_decide_eq_true hc
  rw [e]; exact h0
theorem rr_invS {E : Nat → Nat → Prop} {k : Nat} {p q : Nat → Bool} (h : rr_inv E k p) (w : rr_mid E p q 10) : rr_inv E (k + 1) q := by
  refine ⟨w.1 0 h.1, ?_, fun K h0 hc => w.2.2 K (h.2.2 K h0 hc) hc⟩
  by_cases hx : ∃ b, b < 10 ∧ p b = false ∧ q b = true
  · obtain ⟨b, hb, h1, h2⟩ := hx
    rcases h.2.1 with hp | hp
    · have h3 := w.2.2 p (fun _ z => z) hp b h2
      rw [h1] at h3
      cases h3
    · have h3 := rr_card_lt p q w.1 10 b hb h1 h2
      exact Or.inr (by omega)
  · left
    intro b t hb hq he
    have hpb : p b = true := by
      cases hh : p b with
      | true => rfl
      | false => exact absurd ⟨b, hb, hh, hq⟩ hx
    exact w.2.1 b t hb hpb he
theorem rr_invC {E : Nat → Nat → Prop} (hE : ∀ b t, E b t → t < 10) {k : Nat} (hk : 9 ≤ k) {q : Nat → Bool} (h : rr_inv E k q) : rr_closed E q := by
  rcases h.2.1 with hp | hp
  · exact hp
  · intro b t _ _ he
    exact rr_card_full q 10 (by omega) t (hE b t he)
theorem rr_uniq {E : Nat → Nat → Prop} (hE : ∀ b t, E b t → t < 10) {k l : Nat} (hk : 9 ≤ k) (hl : 9 ≤ l) {p q : Nat → Bool} (h : rr_inv E k p) (g : rr_inv E l q) (b : Nat) : p b = q b := by
  have h1 := h.2.2 q g.1 (rr_invC hE hl g) b
  have h2 := g.2.2 p h.1 (rr_invC hE hk h) b
  cases hp : p b with
  | true => rw [h1 hp]
  | false =>
    cases hq : q b with
    | true => rw [h2 hq] at hp; cases hp
    | false => rfl
/-- the members below n counted as the programs count -/
def rr_cnt (m : Int32) : Nat → Int32
  | 0 => 0
  | n + 1 => rr_cnt m n + ((m >>> (nI n &&& 31)) &&& 1)
theorem rr_cntE {m m' : Int32} (h : ∀ b, bt m b = bt m' b) : ∀ n, n ≤ 32 → rr_cnt m n = rr_cnt m' n := by
  intro n
  induction n with
  | zero => intro _; rfl
  | succ n ih =>
    intro hn
    show rr_cnt m n + ((m >>> (nI n &&& 31)) &&& 1) = rr_cnt m' n + ((m' >>> (nI n &&& 31)) &&& 1)
    rw [ih (by omega), rr_bit m (by omega), rr_bit m' (by omega), h n]
/-- the ring against the row of newest values -/
def rr_ring (oc : Nat) (R Q : Nat → Int32) : Prop := ∀ j, j < 16 → j < oc → R ((oc - 1 - j) % 16) = Q j
theorem rr_ring0 (R Q : Nat → Int32) : rr_ring 0 R Q := fun j _ h => absurd h (Nat.not_lt_zero j)
/-- the row moved up by one, down to i -/
def rr_mv (Q : Nat → Int32) (i : Nat) : Nat → Int32 := fun x => if i < x ∧ x < 16 then Q (x - 1) else Q x
theorem rr_mv15 (Q : Nat → Int32) : rr_mv Q 15 = Q := by
  funext x
  unfold rr_mv
  rw [if_neg (by omega)]
theorem rr_mvS (Q : Nat → Int32) {i : Nat} (hi : i < 15) : upd (rr_mv Q (i + 1)) (i + 1) (rr_mv Q (i + 1) i) = rr_mv Q i := by
  funext x
  by_cases e : x = i + 1
  · subst e
    rw [pk_us]
    unfold rr_mv
    rw [if_neg (by omega), if_pos (by omega), Nat.add_sub_cancel]
  · rw [pk_un e]
    unfold rr_mv
    by_cases h : i + 1 < x ∧ x < 16
    · rw [if_pos h, if_pos (by omega)]
    · rw [if_neg h, if_neg (by omega)]
/-- the row with a new value in front -/
def rr_push (Q : Nat → Int32) (x : Int32) : Nat → Int32 := upd (rr_mv Q 0) 0 x
theorem rr_ringS {oc : Nat} {R Q : Nat → Int32} (h : rr_ring oc R Q) (x : Int32) : rr_ring (oc + 1) (upd R (oc % 16) x) (rr_push Q x) := by
  intro j hj hjo
  cases j with
  | zero =>
    have e : (oc + 1 - 1 - 0) % 16 = oc % 16 := by omega
    rw [e, pk_us]
    unfold rr_push
    rw [pk_us]
  | succ j =>
    have e : (oc + 1 - 1 - (j + 1)) % 16 ≠ oc % 16 := by omega
    have e2 : oc + 1 - 1 - (j + 1) = oc - 1 - j := by omega
    rw [pk_un e, e2, h j (by omega) (by omega)]
    unfold rr_push
    rw [pk_un (by omega)]
    unfold rr_mv
    rw [if_pos (by omega), Nat.add_sub_cancel]
/-- the edges of the graph, as the component keeps them -/
def rr_E (G P L : Nat → Int32) (b t : Nat) : Prop := G b = 1 ∧ t < 10 ∧ (P b = nI t ∨ L b = nI t)
theorem rr_E10 (G P L : Nat → Int32) : ∀ b t, rr_E G P L b t → t < 10 := fun _ _ h => h.2.1
theorem rr_E0 {G P L : Nat → Int32} {b : Nat} (h : G b = 0) (t : Nat) : ¬ rr_E G P L b t := by
  intro z
  have z1 := z.1
  rw [h] at z1
  exact absurd z1 (by decide)
theorem rr_Ei {G P L : Nat → Int32} {b j l : Nat} (hG : G b = 1) (hP : P b = nI j) (hL : L b = nI l) (hj : j < 10) (hl : l < 10) (i : Nat) : rr_E G P L b i ↔ (i = j ∨ i = l) := by
  unfold rr_E
  rw [hP, hL]
  constructor
  · intro z
    rcases z.2.2 with e | e
    · rw [nI_eq (by omega) (by omega)] at e; exact Or.inl e.symm
    · rw [nI_eq (by omega) (by omega)] at e; exact Or.inr e.symm
  · intro z
    rcases z with e | e
    · subst e; exact ⟨hG, hj, Or.inl rfl⟩
    · subst e; exact ⟨hG, hl, Or.inr rfl⟩
theorem rr_or1 (w : Int32) {j : Nat} (hj : j < 10) (i : Nat) : bt (w ||| ((1 : Int32) <<< (nI j &&& 31))) i = true ↔ (bt w i = true ∨ i = j) := by
  rw [b_or, rr_one (by omega) i, Bool.or_eq_true, decide_eq_true_iff]
theorem rr_or2 (w : Int32) {j l : Nat} (hj : j < 10) (hl : l < 10) (i : Nat) : bt (w ||| (((1 : Int32) <<< (nI j &&& 31)) ||| ((1 : Int32) <<< (nI l &&& 31)))) i = true ↔ (bt w i = true ∨ (i = j ∨ i = l)) := by
  rw [b_or, b_or, rr_one (by omega) i, rr_one (by omega) i, Bool.or_eq_true, Bool.or_eq_true, decide_eq_true_iff, decide_eq_true_iff]
theorem rr_or3 (w : Int32) {j l : Nat} (hj : j < 10) (hl : l < 10) (i : Nat) : bt ((w ||| ((1 : Int32) <<< (nI j &&& 31))) ||| ((1 : Int32) <<< (nI l &&& 31))) i = true ↔ (bt w i = true ∨ (i = j ∨ i = l)) := by
  rw [rr_or1 _ hl i, rr_or1 _ hj i, or_assoc]
end
section
/-! the relation, and how it is kept -/
/-- an index within, by comparisons -/
theorem rr_in (x : Int32) {n : Nat} (hn : n < 2 ^ 31) : vp_in x n ↔ ¬ x < 0 ∧ ¬ nI n ≤ x := by
  rw [vp_in_iff, Int32.lt_iff_toInt_lt, Int32.le_iff_toInt_le, nI_toInt hn, show (0 : Int32).toInt = 0 from by decide]
  omega
theorem rr_in1 (x : Int32) {n : Nat} (hn : n + 1 < 2 ^ 31) : vp_in x (n + 1) ↔ ¬ x < 0 ∧ x ≤ nI n := by
  rw [vp_in_iff, Int32.lt_iff_toInt_lt, Int32.le_iff_toInt_le, nI_toInt (by omega), show (0 : Int32).toInt = 0 from by decide]
  omega
theorem rr_cl {x : Int32} {n : Nat} (h : vp_in x n) : x.toNatClampNeg < n := by
  rw [vp_in_iff] at h
  have e : x.toNatClampNeg = x.toInt.toNat := rfl
  omega
/-- a slot that may be carried out -/
def rr_slot (O V W : Nat → Int32) (s : Nat) : Prop :=
  vp_in (V s) 4 ∧ (O s = 0 ∨ (O s = 1 ∧ vp_in (W s) 4) ∨ (O s = 2 ∧ vp_in (W s) 4) ∨ (O s = 3 ∧ vp_in (W s) 4) ∨ O s = 4 ∨ O s = 5)
/-- the end of a block, as the component and the reference keep it -/
def rr_end (G T P L e t p l : Nat → Int32) (b : Nat) : Prop :=
  (G b = 0 ∧ e b = 0) ∨
  (G b = 1 ∧ e b = 1 ∧ vp_in (P b) 10 ∧ p b = P b ∧ L b = P b ∧ T b = 0) ∨
  (G b = 1 ∧ e b = 2 ∧ vp_in (P b) 10 ∧ vp_in (L b) 10 ∧ vp_in (T b) 4 ∧ p b = P b ∧ l b = L b ∧ t b = T b)
def rr_cnts (C : Nat → Int32) : Prop := ∀ b, b < 10 → ∃ c, c ≤ 3 ∧ C b = nI c
def rr_slots (O V W : Nat → Int32) : Prop := ∀ s, s < 30 → rr_slot O V W s
def rr_ends (G T P L e t p l : Nat → Int32) : Prop := ∀ b, b < 10 → rr_end G T P L e t p l b
/-- the component's state -/
abbrev rr_X (oc : Nat) (la : Int32) (A C O V W G T P L N R : Nat → Int32) : SX := (nI oc, la, A, C, O, V, W, G, T, P, L, N, R)
/-- the reference's state -/
abbrev rr_Y (oc : Nat) (la : Int32) (A C O V W e t p l N Q : Nat → Int32) : SY := (nI oc, la, C, O, V, W, e, t, p, l, A, Q, N)
def i_Rel (_ : Nat) (u : SX) (v : SY) : Prop :=
  ∃ (oc : Nat) (la : Int32) (A C O V W G T P L N R e t p l Q : Nat → Int32),
    u = rr_X oc la A C O V W G T P L N R ∧ v = rr_Y oc la A C O V W e t p l N Q ∧
    oc ≤ 900 ∧ rr_cnts C ∧ rr_slots O V W ∧ rr_ends G T P L e t p l ∧ rr_ring oc R Q
theorem rr_mk (k : Nat) {oc : Nat} {la : Int32} {A C O V W G T P L N R e t p l Q : Nat → Int32} (h : oc ≤ 900) (hC : rr_cnts C) (hS : rr_slots O V W) (hE : rr_ends G T P L e t p l) (hR : rr_ring oc R Q) : i_Rel k (rr_X oc la A C O V W G T P L N R) (rr_Y oc la A C O V W e t p l N Q) :=
  ⟨oc, la, A, C, O, V, W, G, T, P, L, N, R, e, t, p, l, Q, rfl, rfl, h, hC, hS, hE, hR⟩
theorem rr_cntsU {C : Nat → Int32} (h : rr_cnts C) (b c : Nat) (hc : c ≤ 3) : rr_cnts (upd C b (nI c)) := by
  intro b' hb'
  by_cases z : b' = b
  · subst z; exact ⟨c, hc, pk_us⟩
  · obtain ⟨c', h1, h2⟩ := h b' hb'
    exact ⟨c', h1, by rw [pk_un z]; exact h2⟩
theorem rr_slotsU {O V W : Nat → Int32} (h : rr_slots O V W) (s : Nat) (o v w : Int32) (hv : vp_in v 4) (ho : o = 0 ∨ (o = 1 ∧ vp_in w 4) ∨ (o = 2 ∧ vp_in w 4) ∨ (o = 3 ∧ vp_in w 4) ∨ o = 4 ∨ o = 5) : rr_slots (upd O s o) (upd V s v) (upd W s w) := by
  intro s' hs'
  by_cases z : s' = s
  · subst z
    unfold rr_slot
    rw [pk_us, pk_us, pk_us]
    exact ⟨hv, ho⟩
  · have h' := h s' hs'
    unfold rr_slot at h' ⊢
    rw [pk_un z, pk_un z, pk_un z]
    exact h'
theorem rr_endsU {G T P L e t p l G' T' P' L' e' t' p' l' : Nat → Int32} (b0 : Nat) (h : rr_ends G T P L e t p l) (h0 : rr_end G' T' P' L' e' t' p' l' b0) (hn : ∀ b, b ≠ b0 → G' b = G b ∧ T' b = T b ∧ P' b = P b ∧ L' b = L b ∧ e' b = e b ∧ t' b = t b ∧ p' b = p b ∧ l' b = l b) : rr_ends G' T' P' L' e' t' p' l' := by
  intro b hb
  by_cases z : b = b0
  · rw [z]; exact h0
  · obtain ⟨a1, a2, a3, a4, a5, a6, a7, a8⟩ := hn b z
    have h' := h b hb
    unfold rr_end at h' ⊢
    rw [a1, a2, a3, a4, a5, a6, a7, a8]
    exact h'
theorem rr_endsStop {G T P L e t p l : Nat → Int32} (b0 : Nat) (h : rr_ends G T P L e t p l) : rr_ends (upd G b0 0) T P L (upd e b0 0) t p l :=
  rr_endsU b0 h (Or.inl ⟨pk_us, pk_us⟩) (fun _ z => ⟨pk_un z, rfl, rfl, rfl, pk_un z, rfl, rfl, rfl⟩)
theorem rr_endsGo {G T P L e t p l : Nat → Int32} (b0 : Nat) (x : Int32) (hx : vp_in x 10) (h : rr_ends G T P L e t p l) : rr_ends (upd G b0 1) (upd T b0 0) (upd P b0 x) (upd L b0 x) (upd e b0 1) t (upd p b0 x) l :=
  rr_endsU b0 h (Or.inr (Or.inl ⟨pk_us, pk_us, by rw [pk_us]; exact hx, by rw [pk_us, pk_us], by rw [pk_us, pk_us], pk_us⟩)) (fun _ z => ⟨pk_un z, pk_un z, pk_un z, pk_un z, pk_un z, rfl, pk_un z, rfl⟩)
theorem rr_endsIf {G T P L e t p l : Nat → Int32} (b0 : Nat) (v x y : Int32) (hv : vp_in v 4) (hx : vp_in x 10) (hy : vp_in y 10) (h : rr_ends G T P L e t p l) : rr_ends (upd G b0 1) (upd T b0 v) (upd P b0 x) (upd L b0 y) (upd e b0 2) (upd t b0 v) (upd p b0 x) (upd l b0 y) :=
  rr_endsU b0 h (Or.inr (Or.inr ⟨pk_us, pk_us, by rw [pk_us]; exact hx, by rw [pk_us]; exact hy, by rw [pk_us]; exact hv, by rw [pk_us, pk_us], by rw [pk_us, pk_us], by rw [pk_us, pk_us]⟩)) (fun _ z => ⟨pk_un z, pk_un z, pk_un z, pk_un z, pk_un z, pk_un z, pk_un z, pk_un z⟩)
theorem i_up {k : Nat} {u : SX} {v : SY} (h : i_Rel k u v) : i_Rel (k + 5) u v := h
theorem rr_z4 : vp_in 0 4 := vp_in_nI (n := 0) (by decide) (by decide)
theorem i_vc0 : wpX_init (fun u => wpY_init (fun v => i_Rel 0 u v)) :=
  rr_mk 0 (oc := 0) (la := -1) (by decide) (fun _ _ => ⟨0, by decide, rfl⟩) (fun _ _ => ⟨rr_z4, Or.inl rfl⟩) (fun _ _ => Or.inl ⟨rfl, rfl⟩) (rr_ring0 _ _)
theorem rr_10 : ¬ (1 : Int32) = 0 := by decide
theorem rr_ne {a b c : Int32} (h : a = b) (hb : ¬ b = c) : ¬ a = c := by rw [h]; exact hb
/-- an op that is known -/
theorem rr_op6 {x : Int32} (h0 : ¬ x < 0) (h5 : x ≤ 5) : x = 0 ∨ x = 1 ∨ x = 2 ∨ x = 3 ∨ x = 4 ∨ x = 5 := by
  obtain ⟨j, hj, rfl⟩ := nI_of2 (x := x) (M := 5) (n := 5) (by decide) h0 h5
  have h : j = 0 ∨ j = 1 ∨ j = 2 ∨ j = 3 ∨ j = 4 ∨ j = 5 := by omega
  rcases h with rfl | rfl | rfl | rfl | rfl | rfl
  · exact Or.inl rfl
  · exact Or.inr (Or.inl rfl)
  · exact Or.inr (Or.inr (Or.inl rfl))
  · exact Or.inr (Or.inr (Or.inr (Or.inl rfl)))
  · exact Or.inr (Or.inr (Or.inr (Or.inr (Or.inl rfl))))
  · exact Or.inr (Or.inr (Or.inr (Or.inr (Or.inr rfl))))
/-- the next place of a block within its three -/
theorem rr_at (b c : Nat) : nI b * 3 + nI c = nI (b * 3 + c) := by
  rw [← nI_add, ← pk_mul]
  rfl
end
section
/-! the tests of arguments, and the methods without a loop -/
theorem rx_isBlock {post : Int32 → Prop} {u : SX} {x : Int32} (h1 : vp_in x 10 → post 1) (h0 : ¬ vp_in x 10 → post 0) : wpX_isBlock post u x := by
  have hi := rr_in x (n := 10) (by decide)
  by_cases a : x < 0
  · exact br_t a (h0 (fun h => (hi.mp h).1 a))
  · by_cases b : (10 : Int32) ≤ x
    · exact br_f a (br_t b (h0 (fun h => (hi.mp h).2 b)))
    · exact br_f a (br_f b (h1 (hi.mpr ⟨a, b⟩)))
theorem rx_isVariable {post : Int32 → Prop} {u : SX} {x : Int32} (h1 : vp_in x 4 → post 1) (h0 : ¬ vp_in x 4 → post 0) : wpX_isVariable post u x := by
  have hi := rr_in x (n := 4) (by decide)
  by_cases a : x < 0
  · exact br_t a (h0 (fun h => (hi.mp h).1 a))
  · by_cases b : (4 : Int32) ≤ x
    · exact br_f a (br_t b (h0 (fun h => (hi.mp h).2 b)))
    · exact br_f a (br_f b (h1 (hi.mpr ⟨a, b⟩)))
theorem rx_reads {post : Int32 → Prop} {u : SX} {x : Int32} (h1 : (x = 1 ∨ x = 2 ∨ x = 3) → post 1) (h0 : ¬ (x = 1 ∨ x = 2 ∨ x = 3) → post 0) : wpX_readsSecondVariable post u x := by
  by_cases a : x = 1
  · exact br_t a (h1 (Or.inl a))
  · by_cases b : x = 2
    · exact br_f a (br_t b (h1 (Or.inr (Or.inl b))))
    · by_cases c : x = 3
      · exact br_f a (br_f b (br_t c (h1 (Or.inr (Or.inr c)))))
      · refine br_f a (br_f b (br_f c (h0 ?_)))
        intro h
        rcases h with h | h | h
        · exact a h
        · exact b h
        · exact c h
theorem ry_bad {post : Int32 → Prop} {u : SY} {x : Int32} (h0 : vp_in x 10 → post 0) (h1 : ¬ vp_in x 10 → post 1) : wpY_bad post u x := by
  have hi := rr_in1 x (n := 9) (by decide)
  by_cases a : x < 0
  · exact br_t a (h1 (fun h => (hi.mp h).1 a))
  · by_cases b : x ≤ (9 : Int32)
    · exact br_f a (br_t b (h0 (hi.mpr ⟨a, b⟩)))
    · exact br_f a (br_f b (h1 (fun h => b (hi.mp h).2)))
theorem ry_badVariable {post : Int32 → Prop} {u : SY} {x : Int32} (h0 : vp_in x 4 → post 0) (h1 : ¬ vp_in x 4 → post 1) : wpY_badVariable post u x := by
  have hi := rr_in1 x (n := 3) (by decide)
  by_cases a : x < 0
  · exact br_t a (h1 (fun h => (hi.mp h).1 a))
  · by_cases b : x ≤ (3 : Int32)
    · exact br_f a (br_t b (h0 (hi.mpr ⟨a, b⟩)))
    · exact br_f a (br_f b (h1 (fun h => b (hi.mp h).2)))
theorem i_vc_empty {k : Nat} {u : SX} {v : SY} (I : i_Rel k u v) (hk : k + 5 ≤ 2560) (v1 : Int32) : wpX_empty (fun r u' => wpY_empty (fun r' v' => r' = r ∧ i_Rel (k + 5) u' v') v v1) u v1 := by
  obtain ⟨oc, la, A, C, O, V, W, G, T, P, L, N, R, e, t, p, l, Q, rfl, rfl, h, hC, hS, hE, hR⟩ := I
  unfold wpX_empty wpY_empty
  dsimp only
  by_cases h1 : vp_in v1 10
  · refine rx_isBlock (fun _ => br_f rr_10 ⟨h1, nm_e ⟨h1, nm_e ?_⟩⟩) (fun z => absurd h1 z)
    exact ry_bad (fun _ => br_t rfl ⟨h1, nm_e ⟨h1, nm_e ⟨rfl, rr_mk _ h (rr_cntsU hC _ 0 (by decide)) hS hE hR⟩⟩⟩) (fun z => absurd h1 z)
  · refine rx_isBlock (fun z => absurd z h1) (fun _ => br_t rfl ?_)
    exact ry_bad (fun z => absurd z h1) (fun _ => br_f rr_10 ⟨rfl, rr_mk _ h hC hS hE hR⟩)
theorem i_vc_stop {k : Nat} {u : SX} {v : SY} (I : i_Rel k u v) (hk : k + 5 ≤ 2560) (v1 : Int32) : wpX_stop (fun r u' => wpY_stop (fun r' v' => r' = r ∧ i_Rel (k + 5) u' v') v v1) u v1 := by
  obtain ⟨oc, la, A, C, O, V, W, G, T, P, L, N, R, e, t, p, l, Q, rfl, rfl, h, hC, hS, hE, hR⟩ := I
  unfold wpX_stop wpY_stop
  dsimp only
  by_cases h1 : vp_in v1 10
  · refine rx_isBlock (fun _ => br_f rr_10 ⟨h1, nm_e ?_⟩) (fun z => absurd h1 z)
    exact ry_bad (fun _ => br_t rfl ⟨h1, nm_e ⟨rfl, rr_mk _ h hC hS (rr_endsStop _ hE) hR⟩⟩) (fun z => absurd h1 z)
  · refine rx_isBlock (fun z => absurd z h1) (fun _ => br_t rfl ?_)
    exact ry_bad (fun z => absurd z h1) (fun _ => br_f rr_10 ⟨rfl, rr_mk _ h hC hS hE hR⟩)
theorem rx_ends {post : SX → Prop} {oc : Nat} {la : Int32} {A C O V W G T P L N R : Nat → Int32} {b v x y : Int32} (hb : vp_in b 10) (hp : post (rr_X oc la A C O V W (upd G b.toNatClampNeg 1) (upd T b.toNatClampNeg v) (upd P b.toNatClampNeg x) (upd L b.toNatClampNeg y) N R)) : wpX_endWithTargets post (rr_X oc la A C O V W G T P L N R) b v x y :=
  ⟨hb, nm_e ⟨hb, nm_e ⟨hb, nm_e ⟨hb, nm_e hp⟩⟩⟩⟩
theorem i_vc_go {k : Nat} {u : SX} {v : SY} (I : i_Rel k u v) (hk : k + 5 ≤ 2560) (v1 : Int32) (v2 : Int32) : wpX_go (fun r u' => wpY_go (fun r' v' => r' = r ∧ i_Rel (k + 5) u' v') v v1 v2) u v1 v2 := by
  obtain ⟨oc, la, A, C, O, V, W, G, T, P, L, N, R, e, t, p, l, Q, rfl, rfl, h, hC, hS, hE, hR⟩ := I
  unfold wpX_go wpY_go
  dsimp only
  by_cases h1 : vp_in v1 10
  · by_cases h2 : vp_in v2 10
    · refine rx_isBlock (fun _ => br_f rr_10 (rx_isBlock (fun _ => br_f rr_10 (rx_ends h1 ?_)) (fun z => absurd h2 z))) (fun z => absurd h1 z)
      exact ry_bad (fun _ => br_t rfl (ry_bad (fun _ => br_t rfl ⟨h1, nm_e ⟨h1, nm_e ⟨rfl, rr_mk _ h hC hS (rr_endsGo _ _ h2 hE) hR⟩⟩⟩) (fun z => absurd h2 z))) (fun z => absurd h1 z)
    · refine rx_isBlock (fun _ => br_f rr_10 (rx_isBlock (fun z => absurd z h2) (fun _ => br_t rfl ?_))) (fun z => absurd h1 z)
      exact ry_bad (fun _ => br_t rfl (ry_bad (fun z => absurd z h2) (fun _ => br_f rr_10 ⟨rfl, rr_mk _ h hC hS hE hR⟩))) (fun z => absurd h1 z)
  · refine rx_isBlock (fun z => absurd z h1) (fun _ => br_t rfl ?_)
    exact ry_bad (fun z => absurd z h1) (fun _ => br_f rr_10 ⟨rfl, rr_mk _ h hC hS hE hR⟩)
theorem i_vc_branch {k : Nat} {u : SX} {v : SY} (I : i_Rel k u v) (hk : k + 5 ≤ 2560) (v1 : Int32) (v2 : Int32) (v3 : Int32) (v4 : Int32) : wpX_branch (fun r u' => wpY_branch (fun r' v' => r' = r ∧ i_Rel (k + 5) u' v') v v1 v2 v3 v4) u v1 v2 v3 v4 := by
  obtain ⟨oc, la, A, C, O, V, W, G, T, P, L, N, R, e, t, p, l, Q, rfl, rfl, h, hC, hS, hE, hR⟩ := I
  have J := rr_mk (k + 5) (la := la) (A := A) (N := N) h hC hS hE hR
  unfold wpX_branch wpY_branch
  dsimp only
  by_cases h1 : vp_in v1 10
  · refine rx_isBlock (fun _ => br_f rr_10 ?_) (fun z => absurd h1 z)
    by_cases h3 : vp_in v3 10
    · refine rx_isBlock (fun _ => br_f rr_10 ?_) (fun z => absurd h3 z)
      by_cases h4 : vp_in v4 10
      · refine rx_isBlock (fun _ => br_f rr_10 ?_) (fun z => absurd h4 z)
        by_cases h2 : vp_in v2 4
        · refine rx_isVariable (fun _ => br_f rr_10 (rx_ends h1 ?_)) (fun z => absurd h2 z)
          refine ry_bad (fun _ => br_t rfl ?_) (fun z => absurd h1 z)
          refine ry_bad (fun _ => br_t rfl ?_) (fun z => absurd h3 z)
          refine ry_bad (fun _ => br_t rfl ?_) (fun z => absurd h4 z)
          refine ry_badVariable (fun _ => br_t rfl ?_) (fun z => absurd h2 z)
          exact ⟨h1, nm_e ⟨h1, nm_e ⟨h1, nm_e ⟨h1, nm_e ⟨rfl, rr_mk _ h hC hS (rr_endsIf _ _ _ _ h2 h3 h4 hE) hR⟩⟩⟩⟩⟩
        · refine rx_isVariable (fun z => absurd z h2) (fun _ => br_t rfl ?_)
          refine ry_bad (fun _ => br_t rfl ?_) (fun z => absurd h1 z)
          refine ry_bad (fun _ => br_t rfl ?_) (fun z => absurd h3 z)
          refine ry_bad (fun _ => br_t rfl ?_) (fun z => absurd h4 z)
          exact ry_badVariable (fun z => absurd z h2) (fun _ => br_f rr_10 ⟨rfl, J⟩)
      · refine rx_isBlock (fun z => absurd z h4) (fun _ => br_t rfl ?_)
        refine ry_bad (fun _ => br_t rfl ?_) (fun z => absurd h1 z)
        refine ry_bad (fun _ => br_t rfl ?_) (fun z => absurd h3 z)
        exact ry_bad (fun z => absurd z h4) (fun _ => br_f rr_10 ⟨rfl, J⟩)
    · refine rx_isBlock (fun z => absurd z h3) (fun _ => br_t rfl ?_)
      refine ry_bad (fun _ => br_t rfl ?_) (fun z => absurd h1 z)
      exact ry_bad (fun z => absurd z h3) (fun _ => br_f rr_10 ⟨rfl, J⟩)
  · refine rx_isBlock (fun z => absurd z h1) (fun _ => br_t rfl ?_)
    exact ry_bad (fun z => absurd z h1) (fun _ => br_f rr_10 ⟨rfl, J⟩)
theorem i_vc_set {k : Nat} {u : SX} {v : SY} (I : i_Rel k u v) (hk : k + 5 ≤ 2560) (v1 : Int32) (v2 : Int32) : wpX_set (fun r u' => wpY_set (fun r' v' => r' = r ∧ i_Rel (k + 5) u' v') v v1 v2) u v1 v2 := by
  obtain ⟨oc, la, A, C, O, V, W, G, T, P, L, N, R, e, t, p, l, Q, rfl, rfl, h, hC, hS, hE, hR⟩ := I
  unfold wpX_set wpY_set
  dsimp only
  by_cases h1 : vp_in v1 4
  · refine rx_isVariable (fun _ => br_f rr_10 ⟨h1, nm_e ?_⟩) (fun z => absurd h1 z)
    exact ry_badVariable (fun _ => br_t rfl ⟨h1, nm_e ⟨rfl, rr_mk _ h hC hS hE hR⟩⟩) (fun z => absurd h1 z)
  · refine rx_isVariable (fun z => absurd z h1) (fun _ => br_t rfl ?_)
    exact ry_badVariable (fun z => absurd z h1) (fun _ => br_f rr_10 ⟨rfl, rr_mk _ h hC hS hE hR⟩)
theorem i_vc_get {k : Nat} {u : SX} {v : SY} (I : i_Rel k u v) (hk : k + 5 ≤ 2560) (v1 : Int32) : wpX_get (fun r => wpY_get (fun r' => r' = r ∧ i_Rel (k + 5) u v) v v1) u v1 := by
  have J := I
  obtain ⟨oc, la, A, C, O, V, W, G, T, P, L, N, R, e, t, p, l, Q, rfl, rfl, h, hC, hS, hE, hR⟩ := I
  unfold wpX_get wpY_get
  dsimp only
  by_cases h1 : vp_in v1 4
  · refine rx_isVariable (fun _ => br_f rr_10 ⟨h1, ?_⟩) (fun z => absurd h1 z)
    exact ry_badVariable (fun _ => br_t rfl ⟨h1, rfl, J⟩) (fun z => absurd h1 z)
  · refine rx_isVariable (fun z => absurd z h1) (fun _ => br_t rfl ?_)
    exact ry_badVariable (fun z => absurd z h1) (fun _ => br_f rr_10 ⟨rfl, J⟩)
theorem i_vc_outputs {k : Nat} {u : SX} {v : SY} (I : i_Rel k u v) (hk : k + 5 ≤ 2560) : wpX_outputs (fun r => wpY_outputs (fun r' => r' = r ∧ i_Rel (k + 5) u v) v) u := by
  have J := I
  obtain ⟨oc, la, A, C, O, V, W, G, T, P, L, N, R, e, t, p, l, Q, rfl, rfl, h, hC, hS, hE, hR⟩ := I
  exact ⟨rfl, J⟩
theorem i_vc_visits {k : Nat} {u : SX} {v : SY} (I : i_Rel k u v) (hk : k + 5 ≤ 2560) (v1 : Int32) : wpX_visits (fun r => wpY_visits (fun r' => r' = r ∧ i_Rel (k + 5) u v) v v1) u v1 := by
  have J := I
  obtain ⟨oc, la, A, C, O, V, W, G, T, P, L, N, R, e, t, p, l, Q, rfl, rfl, h, hC, hS, hE, hR⟩ := I
  unfold wpX_visits wpY_visits
  dsimp only
  by_cases h1 : vp_in v1 10
  · refine rx_isBlock (fun _ => br_f rr_10 ⟨h1, ?_⟩) (fun z => absurd h1 z)
    exact ry_bad (fun _ => br_t rfl ⟨h1, rfl, J⟩) (fun z => absurd h1 z)
  · refine rx_isBlock (fun z => absurd z h1) (fun _ => br_t rfl ?_)
    exact ry_bad (fun z => absurd z h1) (fun _ => br_f rr_10 ⟨rfl, J⟩)
theorem i_vc_last {k : Nat} {u : SX} {v : SY} (I : i_Rel k u v) (hk : k + 5 ≤ 2560) : wpX_last (fun r => wpY_last (fun r' => r' = r ∧ i_Rel (k + 5) u v) v) u := by
  have J := I
  obtain ⟨oc, la, A, C, O, V, W, G, T, P, L, N, R, e, t, p, l, Q, rfl, rfl, h, hC, hS, hE, hR⟩ := I
  exact ⟨rfl, J⟩
end
section
/-! assign and output -/
section
variable {oc : Nat} {la : Int32} {A C O V W G T P L N R e t p l Q : Nat → Int32}
theorem rx_as {post : Int32 → SX → Prop} {b c : Nat} {x2 x3 x4 : Int32} (hb : b < 10) (hc : c < 3) (h : C b = nI c) (hp : post (nI (c + 1)) (rr_X oc la A (upd C b (nI (c + 1))) (upd O (b * 3 + c) x2) (upd V (b * 3 + c) x3) (upd W (b * 3 + c) x4) G T P L N R)) : wX_assign_50 post (nI b) x2 x3 x4 (nI oc) la A C O V W G T P L N R := by
  have ec : (nI b).toNatClampNeg = b := nI_clamp (by omega)
  have es : (nI (b * 3 + c)).toNatClampNeg = b * 3 + c := nI_clamp (by omega)
  have hin : vp_in (nI b) 10 := vp_in_nI hb (by decide)
  have h30 : vp_in (nI (b * 3 + c)) 30 := vp_in_nI (by omega) (by decide)
  have hlt : nI c < 3 := nI_lt (b := 3) hc (by decide)
  unfold wX_assign_50
  rw [ec, h]
  refine ⟨hin, br_t hlt ⟨hin, nm_r (rr_at b c) ?_⟩⟩
  rw [es]
  refine ⟨h30, nm_e ⟨h30, nm_e ⟨h30, nm_e ⟨hin, hin, nm_r (e' := upd C b (nI (c + 1))) (by rw [nI_1]) ⟨hin, ?_⟩⟩⟩⟩⟩
  rw [pk_us]
  exact hp
theorem rx_asF {post : Int32 → SX → Prop} {b : Nat} {x2 x3 x4 : Int32} (hb : b < 10) (h : C b = nI 3) (hp : post (-4) (rr_X oc la A C O V W G T P L N R)) : wX_assign_50 post (nI b) x2 x3 x4 (nI oc) la A C O V W G T P L N R := by
  have ec : (nI b).toNatClampNeg = b := nI_clamp (by omega)
  have hin : vp_in (nI b) 10 := vp_in_nI hb (by decide)
  have hlt : ¬ nI 3 < 3 := by decide
  unfold wX_assign_50
  rw [ec, h]
  exact ⟨hin, br_f hlt hp⟩
theorem ry_as {post : Int32 → SY → Prop} {b c : Nat} {x2 x3 x4 : Int32} (hb : b < 10) (hc : c < 3) (h : C b = nI c) (hp : post (nI (c + 1)) (rr_Y oc la A (upd C b (nI (c + 1))) (upd O (b * 3 + c) x2) (upd V (b * 3 + c) x3) (upd W (b * 3 + c) x4) e t p l N Q)) : wY_assign_52 post (nI b) x2 x3 x4 (nI oc) la C O V W e t p l A Q N := by
  have ec : (nI b).toNatClampNeg = b := nI_clamp (by omega)
  have es : (nI (b * 3 + c)).toNatClampNeg = b * 3 + c := nI_clamp (by omega)
  have hin : vp_in (nI b) 10 := vp_in_nI hb (by decide)
  have h30 : vp_in (nI (b * 3 + c)) 30 := vp_in_nI (by omega) (by decide)
  have hne : ¬ nI c = 3 := fun z => absurd ((nI_eq (b := 3) (by omega) (by decide)).mp z) (by omega)
  unfold wY_assign_52
  rw [ec, h]
  refine ⟨hin, nm_e (br_f hne ?_)⟩
  rw [rr_at, es, nI_1]
  exact ⟨h30, nm_e ⟨h30, nm_e ⟨h30, nm_e ⟨hin, nm_e hp⟩⟩⟩⟩
theorem ry_asF {post : Int32 → SY → Prop} {b : Nat} {x2 x3 x4 : Int32} (hb : b < 10) (h : C b = nI 3) (hp : post (-4) (rr_Y oc la A C O V W e t p l N Q)) : wY_assign_52 post (nI b) x2 x3 x4 (nI oc) la C O V W e t p l A Q N := by
  have ec : (nI b).toNatClampNeg = b := nI_clamp (by omega)
  have hin : vp_in (nI b) 10 := vp_in_nI hb (by decide)
  unfold wY_assign_52
  rw [ec, h]
  exact ⟨hin, nm_e (br_t rfl hp)⟩
/-- the component's assign: refused by the block, by the op, by a variable, or on to its place -/
theorem rx_assign {post : Int32 → SX → Prop} {x1 x2 x3 x4 : Int32}
    (k1 : ¬ vp_in x1 10 → post (-1) (rr_X oc la A C O V W G T P L N R))
    (k2 : vp_in x1 10 → ¬ (¬ x2 < 0 ∧ x2 ≤ 5) → post (-3) (rr_X oc la A C O V W G T P L N R))
    (k3 : vp_in x1 10 → ¬ x2 < 0 → x2 ≤ 5 → ¬ (vp_in x3 4 ∧ ((x2 = 1 ∨ x2 = 2 ∨ x2 = 3) → vp_in x4 4)) → post (-2) (rr_X oc la A C O V W G T P L N R))
    (k4 : vp_in x1 10 → ¬ x2 < 0 → x2 ≤ 5 → vp_in x3 4 → ((x2 = 1 ∨ x2 = 2 ∨ x2 = 3) → vp_in x4 4) → wX_assign_50 post x1 x2 x3 x4 (nI oc) la A C O V W G T P L N R) :
    wpX_assign post (rr_X oc la A C O V W G T P L N R) x1 x2 x3 x4 := by
  unfold wpX_assign
  dsimp only
  refine rx_isBlock (fun h1 => br_f rr_10 ?_) (fun z => br_t rfl (k1 z))
  by_cases a : x2 < 0
  · exact br_t a (k2 h1 (fun z => z.1 a))
  · refine br_f a ?_
    by_cases b : x2 ≤ 5
    · refine br_t b ?_
      refine rx_isVariable (fun h3 => br_f rr_10 ?_) (fun z => br_t rfl (k3 h1 a b (fun y => z y.1)))
      refine rx_reads (fun hr => br_f rr_10 ?_) (fun hr => br_t rfl (k4 h1 a b h3 (fun z => absurd z hr)))
      exact rx_isVariable (fun h4 => br_f rr_10 (k4 h1 a b h3 (fun _ => h4))) (fun z => br_t rfl (k3 h1 a b (fun y => z (y.2 hr))))
    · exact br_f b (k2 h1 (fun z => b z.2))
theorem ry_assign {post : Int32 → SY → Prop} {x1 x2 x3 x4 : Int32}
    (k1 : ¬ vp_in x1 10 → post (-1) (rr_Y oc la A C O V W e t p l N Q))
    (k2 : vp_in x1 10 → ¬ (¬ x2 < 0 ∧ x2 ≤ 5) → post (-3) (rr_Y oc la A C O V W e t p l N Q))
    (k3 : vp_in x1 10 → ¬ x2 < 0 → x2 ≤ 5 → ¬ (vp_in x3 4 ∧ ((x2 = 1 ∨ x2 = 2 ∨ x2 = 3) → vp_in x4 4)) → post (-2) (rr_Y oc la A C O V W e t p l N Q))
    (k4 : vp_in x1 10 → ¬ x2 < 0 → x2 ≤ 5 → vp_in x3 4 → ((x2 = 1 ∨ x2 = 2 ∨ x2 = 3) → vp_in x4 4) → wY_assign_52 post x1 x2 x3 x4 (nI oc) la C O V W e t p l A Q N) :
    wpY_assign post (rr_Y oc la A C O V W e t p l N Q) x1 x2 x3 x4 := by
  unfold wpY_assign
  dsimp only
  refine ry_bad (fun h1 => br_t rfl ?_) (fun z => br_f rr_10 (k1 z))
  by_cases a : x2 < 0
  · exact br_t a (k2 h1 (fun z => z.1 a))
  · refine br_f a ?_
    by_cases b : x2 ≤ 5
    · refine br_t b ?_
      refine ry_badVariable (fun h3 => br_t rfl ?_) (fun z => br_f rr_10 (k3 h1 a b (fun y => z y.1)))
      rcases rr_op6 a b with rfl | rfl | rfl | rfl | rfl | rfl
      · exact br_t (by decide) (k4 h1 a b h3 (fun z => absurd z (by decide)))
      · exact br_f (by decide) (br_f (by decide) (ry_badVariable (fun h4 => br_t rfl (k4 h1 a b h3 (fun _ => h4))) (fun z => br_f rr_10 (k3 h1 a b (fun y => z (y.2 (by decide)))))))
      · exact br_f (by decide) (br_f (by decide) (ry_badVariable (fun h4 => br_t rfl (k4 h1 a b h3 (fun _ => h4))) (fun z => br_f rr_10 (k3 h1 a b (fun y => z (y.2 (by decide)))))))
      · exact br_f (by decide) (br_f (by decide) (ry_badVariable (fun h4 => br_t rfl (k4 h1 a b h3 (fun _ => h4))) (fun z => br_f rr_10 (k3 h1 a b (fun y => z (y.2 (by decide)))))))
      · exact br_f (by decide) (br_t (by decide) (k4 h1 a b h3 (fun z => absurd z (by decide))))
      · exact br_f (by decide) (br_t (by decide) (k4 h1 a b h3 (fun z => absurd z (by decide))))
    · exact br_f b (k2 h1 (fun z => b z.2))
end
theorem i_vc_assign {k : Nat} {u : SX} {v : SY} (I : i_Rel k u v) (hk : k + 5 ≤ 2560) (v1 : Int32) (v2 : Int32) (v3 : Int32) (v4 : Int32) : wpX_assign (fun r u' => wpY_assign (fun r' v' => r' = r ∧ i_Rel (k + 5) u' v') v v1 v2 v3 v4) u v1 v2 v3 v4 := by
  obtain ⟨oc, la, A, C, O, V, W, G, T, P, L, N, R, e, t, p, l, Q, rfl, rfl, h, hC, hS, hE, hR⟩ := I
  have J := rr_mk (k + 5) (la := la) (A := A) (N := N) h hC hS hE hR
  refine rx_assign (fun a => ?_) (fun a1 a2 => ?_) (fun a1 a2 a3 a4 => ?_) (fun a1 a2 a3 a4 a5 => ?_)
  · exact ry_assign (fun _ => ⟨rfl, J⟩) (fun z => absurd z a) (fun z => absurd z a) (fun z => absurd z a)
  · exact ry_assign (fun z => absurd a1 z) (fun _ _ => ⟨rfl, J⟩) (fun _ b2 b3 => absurd ⟨b2, b3⟩ a2) (fun _ b2 b3 => absurd ⟨b2, b3⟩ a2)
  · exact ry_assign (fun z => absurd a1 z) (fun _ z => absurd ⟨a2, a3⟩ z) (fun _ _ _ _ => ⟨rfl, J⟩) (fun _ _ _ b4 b5 => absurd ⟨b4, b5⟩ a4)
  · obtain ⟨b, hb, rfl⟩ := vp_in_of a1 (by decide)
    obtain ⟨c, hc, ec⟩ := hC b hb
    have ho : v2 = 0 ∨ (v2 = 1 ∧ vp_in v4 4) ∨ (v2 = 2 ∧ vp_in v4 4) ∨ (v2 = 3 ∧ vp_in v4 4) ∨ v2 = 4 ∨ v2 = 5 := by
      rcases rr_op6 a2 a3 with z | z | z | z | z | z
      · exact Or.inl z
      · exact Or.inr (Or.inl ⟨z, a5 (Or.inl z)⟩)
      · exact Or.inr (Or.inr (Or.inl ⟨z, a5 (Or.inr (Or.inl z))⟩))
      · exact Or.inr (Or.inr (Or.inr (Or.inl ⟨z, a5 (Or.inr (Or.inr z))⟩)))
      · exact Or.inr (Or.inr (Or.inr (Or.inr (Or.inl z))))
      · exact Or.inr (Or.inr (Or.inr (Or.inr (Or.inr z))))
    rcases Nat.lt_or_ge c 3 with c3 | c3
    · refine rx_as hb c3 ec ?_
      refine ry_assign (fun z => absurd a1 z) (fun _ z => absurd ⟨a2, a3⟩ z) (fun _ _ _ z => absurd ⟨a4, a5⟩ z) (fun _ _ _ _ _ => ?_)
      exact ry_as hb c3 ec ⟨rfl, rr_mk _ h (rr_cntsU hC b (c + 1) (by omega)) (rr_slotsU hS _ _ _ _ a4 ho) hE hR⟩
    · have e3 : c = 3 := by omega
      subst e3
      refine rx_asF hb ec ?_
      refine ry_assign (fun z => absurd a1 z) (fun _ z => absurd ⟨a2, a3⟩ z) (fun _ _ _ z => absurd ⟨a4, a5⟩ z) (fun _ _ _ _ _ => ?_)
      exact ry_asF hb ec ⟨rfl, J⟩
theorem i_vc_output {k : Nat} {u : SX} {v : SY} (I : i_Rel k u v) (hk : k + 5 ≤ 2560) (v1 : Int32) : wpX_output (fun r => wpY_output (fun r' => r' = r ∧ i_Rel (k + 5) u v) v v1) u v1 := by
  have J := I
  obtain ⟨oc, la, A, C, O, V, W, G, T, P, L, N, R, e, t, p, l, Q, rfl, rfl, h, hC, hS, hE, hR⟩ := I
  by_cases a : v1 < 0
  · exact br_t a (br_t a ⟨rfl, J⟩)
  · obtain ⟨j, hj, rfl⟩ := nI_of a
    by_cases b : j < 16
    · have b1 : ¬ (16 : Int32) ≤ nI j := nI_ge (b := 16) b (by decide)
      have b2 : ¬ (15 : Int32) < nI j := nI_nlt (a := 15) (by omega) (by decide)
      by_cases c : j < oc
      · have c1 : nI j < nI oc := nI_lt c (by omega)
        have e1 : nI oc - 1 - nI j = nI (oc - 1 - j) := by
          rw [show (1 : Int32) = nI 1 from rfl, pk_sub (by omega), pk_sub (by omega)]
        have e2 : (nI oc - 1 - nI j) - (nI oc - 1 - nI j) / 16 * 16 = nI ((oc - 1 - j) % 16) := by
          rw [e1]; exact pk_rem (d := 16) (by omega) (by decide) (by decide)
        have e3 : (nI ((oc - 1 - j) % 16)).toNatClampNeg = (oc - 1 - j) % 16 := nI_clamp (by omega)
        have e4 : (nI j).toNatClampNeg = j := nI_clamp hj
        unfold wpX_output
        dsimp only
        rw [e2, e3]
        refine br_f a (br_f b1 (br_t c1 ⟨by decide, vp_in_nI (Nat.mod_lt _ (by decide)) (by decide), ?_⟩))
        refine br_f a (br_f b2 (br_t c1 ⟨vp_in_nI b (by decide), ?_, J⟩))
        rw [e4]
        exact (hR j b c).symm
      · have c1 : ¬ nI j < nI oc := nI_nlt (by omega) hj
        exact br_f a (br_f b1 (br_f c1 (br_f a (br_f b2 (br_f c1 ⟨rfl, J⟩)))))
    · have b1 : (16 : Int32) ≤ nI j := nI_le (a := 16) (by omega) hj
      have b2 : (15 : Int32) < nI j := nI_lt (a := 15) (by omega) hj
      exact br_f a (br_t b1 (br_f a (br_t b2 ⟨rfl, J⟩)))
end
section
/-! run: both sides walk in step; what one slot, one visit, the whole run leaves is one row of values -/
theorem rx_append {post : SX → Prop} {oc : Nat} {la : Int32} {A C O V W G T P L N R : Nat → Int32} {x : Int32} (hoc : oc < 100000) (hp : post (rr_X (oc + 1) la A C O V W G T P L N (upd R (oc % 16) x))) : wpX_append post (rr_X oc la A C O V W G T P L N R) x := by
  have e : nI oc - nI oc / 16 * 16 = nI (oc % 16) := pk_rem (d := 16) (by omega) (by decide) (by decide)
  have ec : (nI (oc % 16)).toNatClampNeg = oc % 16 := nI_clamp (by omega)
  unfold wpX_append
  dsimp only
  rw [e, ec]
  exact ⟨by decide, vp_in_nI (Nat.mod_lt _ (by decide)) (by decide), nm_e (nm_r (nI_1 oc) hp)⟩
theorem ry_outL {post : SY → Prop} {oc : Nat} {la : Int32} {A C O V W e t p l N Q : Nat → Int32} {x : Int32} (hp : post (rr_Y (oc + 1) la A C O V W e t p l N (rr_push Q x))) : ∀ i, i ≤ 15 → wY_out_3 post x (nI oc) la (i + 1) (nI i) C O V W e t p l A (rr_mv Q i) N := by
  intro i
  induction i with
  | zero =>
    intro _
    exact br_t (by decide) (nm_e (nm_r (nI_1 oc) hp))
  | succ i ih =>
    intro hi
    have n0 : ¬ nI (i + 1) ≤ 0 := nI_nle (by omega) (by omega)
    have e1 : nI (i + 1) - 1 = nI i := nI_pred i
    have c1 : (nI (i + 1)).toNatClampNeg = i + 1 := nI_clamp (by omega)
    have c2 : (nI i).toNatClampNeg = i := nI_clamp (by omega)
    rw [wY_out_3]
    dsimp only
    refine br_f n0 ?_
    rw [e1, c1, c2]
    exact ⟨vp_in_nI (by omega) (by decide), vp_in_nI (by omega) (by decide), nm_r (rr_mvS Q (by omega)) (nm_r (pk_m1 i) (ih (by omega)))⟩
theorem ry_out {post : SY → Prop} {oc : Nat} {la : Int32} {A C O V W e t p l N Q : Nat → Int32} {x : Int32} (hp : post (rr_Y (oc + 1) la A C O V W e t p l N (rr_push Q x))) : wpY_out post (rr_Y oc la A C O V W e t p l N Q) x := by
  have h := ry_outL hp 15 (by decide)
  rw [rr_mv15] at h
  exact ⟨16, h⟩
/-- one slot carried out -/
theorem rr_co (oc : Nat) (la : Int32) (A C O V W G T P L N R e t p l Q : Nat → Int32) (x : Int32) (hoc : oc < 100000) (hx : vp_in x 30) (hs : rr_slot O V W x.toNatClampNeg) (hR : rr_ring oc R Q) :
    ∃ (oc' : Nat) (A' R' Q' : Nat → Int32), oc' ≤ oc + 1 ∧ rr_ring oc' R' Q' ∧
      (∀ post : SX → Prop, post (rr_X oc' la A' C O V W G T P L N R') → wpX_carryOut post (rr_X oc la A C O V W G T P L N R) x) ∧
      (∀ post : SY → Prop, post (rr_Y oc' la A' C O V W e t p l N Q') → wpY_carryOut post (rr_Y oc la A C O V W e t p l N Q) x) := by
  obtain ⟨hv, ho⟩ := hs
  rcases ho with ho | ⟨ho, hw⟩ | ⟨ho, hw⟩ | ⟨ho, hw⟩ | ho | ho
  · refine ⟨oc, upd A (V x.toNatClampNeg).toNatClampNeg (W x.toNatClampNeg), R, Q, by omega, hR, fun post hp => ?_, fun post hp => ?_⟩
    · exact ⟨hx, nm_e ⟨hx, nm_e ⟨hx, nm_r ho (br_f (by decide) (br_f (by decide) (br_t rfl ⟨hv, nm_e hp⟩)))⟩⟩⟩
    · have h32 : ∀ z0, wY_carryOut_32 post x (V x.toNatClampNeg) (W x.toNatClampNeg) z0 (nI oc) la C O V W e t p l A Q N := fun z0 => ⟨hx, br_t ho ⟨hv, nm_e hp⟩⟩
      exact ⟨hx, nm_e ⟨hx, nm_e (ry_badVariable (fun hw => br_t rfl ⟨hw, h32 _⟩) (fun _ => br_f rr_10 (h32 _)))⟩⟩
  · have n0 := rr_ne ho (c := 0) (by decide)
    refine ⟨oc, upd A (V x.toNatClampNeg).toNatClampNeg (A (V x.toNatClampNeg).toNatClampNeg + A (W x.toNatClampNeg).toNatClampNeg), R, Q, by omega, hR, fun post hp => ?_, fun post hp => ?_⟩
    · exact ⟨hx, nm_e ⟨hx, nm_e ⟨hx, nm_r ho (br_f (by decide) (br_f (by decide) (br_f (by decide) (br_t rfl ⟨hv, hw, hv, nm_e hp⟩))))⟩⟩⟩
    · have h32 : wY_carryOut_32 post x (V x.toNatClampNeg) (W x.toNatClampNeg) (A (W x.toNatClampNeg).toNatClampNeg) (nI oc) la C O V W e t p l A Q N := ⟨hx, br_f n0 ⟨hx, br_t ho ⟨hv, hv, nm_e hp⟩⟩⟩
      exact ⟨hx, nm_e ⟨hx, nm_e (ry_badVariable (fun hw => br_t rfl ⟨hw, h32⟩) (fun z => absurd hw z))⟩⟩
  · have n0 := rr_ne ho (c := 0) (by decide)
    have n1 := rr_ne ho (c := 1) (by decide)
    refine ⟨oc, upd A (V x.toNatClampNeg).toNatClampNeg (A (V x.toNatClampNeg).toNatClampNeg - A (W x.toNatClampNeg).toNatClampNeg), R, Q, by omega, hR, fun post hp => ?_, fun post hp => ?_⟩
    · exact ⟨hx, nm_e ⟨hx, nm_e ⟨hx, nm_r ho (br_f (by decide) (br_f (by decide) (br_f (by decide) (br_f (by decide) (br_t rfl ⟨hv, hw, hv, nm_e hp⟩)))))⟩⟩⟩
    · have h32 : wY_carryOut_32 post x (V x.toNatClampNeg) (W x.toNatClampNeg) (A (W x.toNatClampNeg).toNatClampNeg) (nI oc) la C O V W e t p l A Q N := ⟨hx, br_f n0 ⟨hx, br_f n1 ⟨hx, br_t ho ⟨hv, hv, nm_e hp⟩⟩⟩⟩
      exact ⟨hx, nm_e ⟨hx, nm_e (ry_badVariable (fun hw => br_t rfl ⟨hw, h32⟩) (fun z => absurd hw z))⟩⟩
  · have n0 := rr_ne ho (c := 0) (by decide)
    have n1 := rr_ne ho (c := 1) (by decide)
    have n2 := rr_ne ho (c := 2) (by decide)
    refine ⟨oc, upd A (V x.toNatClampNeg).toNatClampNeg (A (V x.toNatClampNeg).toNatClampNeg * A (W x.toNatClampNeg).toNatClampNeg), R, Q, by omega, hR, fun post hp => ?_, fun post hp => ?_⟩
    · exact ⟨hx, nm_e ⟨hx, nm_e ⟨hx, nm_r ho (br_f (by decide) (br_f (by decide) (br_f (by decide) (br_f (by decide) (br_f (by decide) (br_t rfl ⟨hv, hw, hv, nm_e hp⟩))))))⟩⟩⟩
    · have h32 : wY_carryOut_32 post x (V x.toNatClampNeg) (W x.toNatClampNeg) (A (W x.toNatClampNeg).toNatClampNeg) (nI oc) la C O V W e t p l A Q N := ⟨hx, br_f n0 ⟨hx, br_f n1 ⟨hx, br_f n2 ⟨hx, br_t ho ⟨hv, hv, nm_e hp⟩⟩⟩⟩⟩
      exact ⟨hx, nm_e ⟨hx, nm_e (ry_badVariable (fun hw => br_t rfl ⟨hw, h32⟩) (fun z => absurd hw z))⟩⟩
  · have n0 := rr_ne ho (c := 0) (by decide)
    have n1 := rr_ne ho (c := 1) (by decide)
    have n2 := rr_ne ho (c := 2) (by decide)
    have n3 := rr_ne ho (c := 3) (by decide)
    refine ⟨oc, upd A (V x.toNatClampNeg).toNatClampNeg (A (V x.toNatClampNeg).toNatClampNeg + W x.toNatClampNeg), R, Q, by omega, hR, fun post hp => ?_, fun post hp => ?_⟩
    · exact ⟨hx, nm_e ⟨hx, nm_e ⟨hx, nm_r ho (br_f (by decide) (br_f (by decide) (br_f (by decide) (br_f (by decide) (br_f (by decide) (br_f (by decide) (br_t rfl ⟨hv, hv, nm_e hp⟩)))))))⟩⟩⟩
    · have h32 : ∀ z0, wY_carryOut_32 post x (V x.toNatClampNeg) (W x.toNatClampNeg) z0 (nI oc) la C O V W e t p l A Q N := fun z0 => ⟨hx, br_f n0 ⟨hx, br_f n1 ⟨hx, br_f n2 ⟨hx, br_f n3 ⟨hx, br_t ho ⟨hv, hv, nm_e hp⟩⟩⟩⟩⟩⟩
      exact ⟨hx, nm_e ⟨hx, nm_e (ry_badVariable (fun hw => br_t rfl ⟨hw, h32 _⟩) (fun _ => br_f rr_10 (h32 _)))⟩⟩
  · have n0 := rr_ne ho (c := 0) (by decide)
    have n1 := rr_ne ho (c := 1) (by decide)
    have n2 := rr_ne ho (c := 2) (by decide)
    have n3 := rr_ne ho (c := 3) (by decide)
    have n4 := rr_ne ho (c := 4) (by decide)
    refine ⟨oc + 1, A, upd R (oc % 16) (A (V x.toNatClampNeg).toNatClampNeg), rr_push Q (A (V x.toNatClampNeg).toNatClampNeg), by omega, rr_ringS hR _, fun post hp => ?_, fun post hp => ?_⟩
    · exact ⟨hx, nm_e ⟨hx, nm_e ⟨hx, nm_r ho (br_f (by decide) (br_t (by decide) ⟨hv, rx_append hoc hp⟩))⟩⟩⟩
    · have h32 : ∀ z0, wY_carryOut_32 post x (V x.toNatClampNeg) (W x.toNatClampNeg) z0 (nI oc) la C O V W e t p l A Q N := fun z0 => ⟨hx, br_f n0 ⟨hx, br_f n1 ⟨hx, br_f n2 ⟨hx, br_f n3 ⟨hx, br_f n4 ⟨hv, ry_out hp⟩⟩⟩⟩⟩⟩
      exact ⟨hx, nm_e ⟨hx, nm_e (ry_badVariable (fun hw => br_t rfl ⟨hw, h32 _⟩) (fun _ => br_f rr_10 (h32 _)))⟩⟩
/-- the slots of a block from the j-th on -/
theorem rr_visL (la : Int32) (C O V W G T P L N e t p l : Nat → Int32) (b c : Nat) (hb : b < 10) (hc : c ≤ 3) (hCb : C b = nI c) (hS : rr_slots O V W) :
    ∀ (d j oc : Nat) (A R Q : Nat → Int32), j + d = c → oc + d < 100000 → rr_ring oc R Q →
    ∃ (oc' : Nat) (A' R' Q' : Nat → Int32), oc' ≤ oc + d ∧ rr_ring oc' R' Q' ∧
      (∀ post : SX → Prop, post (rr_X oc' la A' C O V W G T P L N R') → wX_visit_31 post (nI (b * 3 + c)) (d + 1) (nI (b * 3 + j)) (nI oc) la A C O V W G T P L N R) ∧
      (∀ post : SY → Prop, post (rr_Y oc' la A' C O V W e t p l N Q') → wY_enter_21 post (nI b) (d + 1) (nI j) (nI oc) la C O V W e t p l A Q N) := by
  have ec : (nI b).toNatClampNeg = b := nI_clamp (by omega)
  have hin : vp_in (nI b) 10 := vp_in_nI hb (by decide)
  intro d
  induction d with
  | zero =>
    intro j oc A R Q hj hoc hR
    refine ⟨oc, A, R, Q, by omega, hR, fun post hp => br_t (nI_le (by omega) (by omega)) hp, fun post hp => ⟨hin, br_t ?_ hp⟩⟩
    rw [ec, hCb]
    exact nI_le (by omega) (by omega)
  | succ d ih =>
    intro j oc A R Q hj hoc hR
    have h30 : vp_in (nI (b * 3 + j)) 30 := vp_in_nI (by omega) (by decide)
    have es : (nI (b * 3 + j)).toNatClampNeg = b * 3 + j := nI_clamp (by omega)
    obtain ⟨oc1, A1, R1, Q1, h1, hR1, hX1, hY1⟩ := rr_co oc la A C O V W G T P L N R e t p l Q (nI (b * 3 + j)) (by omega) h30 (by rw [es]; exact hS _ (by omega)) hR
    obtain ⟨oc2, A2, R2, Q2, h2, hR2, hX2, hY2⟩ := ih (j + 1) oc1 A1 R1 Q1 (by omega) (by omega) hR1
    refine ⟨oc2, A2, R2, Q2, by omega, hR2, fun post hp => ?_, fun post hp => ?_⟩
    · refine br_f (nI_ge (by omega) (by omega)) ?_
      refine hX1 _ ?_
      exact nm_r (nI_1 _) (hX2 post hp)
    · refine ⟨hin, br_f ?_ ?_⟩
      · rw [ec, hCb]
        exact nI_ge (by omega) (by omega)
      · rw [rr_at]
        refine hY1 _ ?_
        exact nm_r (nI_1 _) (hY2 post hp)
/-- one visit -/
theorem rr_visit (oc : Nat) (la : Int32) (A C O V W G T P L N R e t p l Q : Nat → Int32) (b : Nat) (hb : b < 10) (hC : rr_cnts C) (hS : rr_slots O V W) (hoc : oc < 50000) (hR : rr_ring oc R Q) :
    ∃ (oc' : Nat) (A' R' Q' : Nat → Int32), oc' ≤ oc + 3 ∧ rr_ring oc' R' Q' ∧
      (∀ post : SX → Prop, post (rr_X oc' (nI b) A' C O V W G T P L (upd N b (N b + 1)) R') → wpX_visit post (rr_X oc la A C O V W G T P L N R) (nI b)) ∧
      (∀ post : SY → Prop, post (rr_Y oc' (nI b) A' C O V W e t p l (upd N b (N b + 1)) Q') → wpY_enter post (rr_Y oc la A C O V W e t p l N Q) (nI b)) := by
  have ec : (nI b).toNatClampNeg = b := nI_clamp (by omega)
  have hin : vp_in (nI b) 10 := vp_in_nI hb (by decide)
  obtain ⟨c, hc, hCb⟩ := hC b hb
  obtain ⟨oc1, A1, R1, Q1, h1, hR1, hX1, hY1⟩ := rr_visL (nI b) C O V W G T P L (upd N b (N b + 1)) e t p l b c hb hc hCb hS c 0 oc A R Q (by omega) (by omega) hR
  refine ⟨oc1, A1, R1, Q1, by omega, hR1, fun post hp => ?_, fun post hp => ?_⟩
  · unfold wpX_visit
    dsimp only
    rw [ec, hCb]
    exact ⟨hin, hin, nm_e (nm_r (pk_mul b 3) ⟨hin, nm_r (nI_add _ _) ⟨_, hX1 post hp⟩⟩)⟩
  · unfold wpY_enter
    dsimp only
    rw [ec]
    exact ⟨hin, hin, nm_e ⟨_, hY1 post hp⟩⟩
/-- the counts of visits forgotten from the i-th on -/
theorem rr_forget (la : Int32) (A C O V W G T P L R e t p l Q : Nat → Int32) : ∀ (d i : Nat) (N : Nat → Int32), i + d = 10 →
    ∃ N' : Nat → Int32,
      (∀ post : SX → Prop, post (rr_X 0 la A C O V W G T P L N' R) → wX_forgetLastRun_7 post 0 la (d + 1) (nI i) A C O V W G T P L N R) ∧
      (∀ post : Int32 → SY → Prop, (∃ n30 : Nat, wY_run_30 post n30 0 0 0 la C O V W e t p l A Q N') → wY_run_7 post 0 la (d + 1) (nI i) C O V W e t p l A Q N) := by
  intro d
  induction d with
  | zero =>
    intro i N hi
    have h10 : (10 : Int32) ≤ nI i := nI_le (a := 10) (by omega) (by omega)
    exact ⟨N, fun post hp => br_t h10 hp, fun post hp => br_t h10 hp⟩
  | succ d ih =>
    intro i N hi
    have h10 : ¬ (10 : Int32) ≤ nI i := nI_ge (b := 10) (by omega) (by decide)
    have hin : vp_in (nI i) 10 := vp_in_nI (by omega) (by decide)
    obtain ⟨N', hX, hY⟩ := ih (i + 1) (upd N (nI i).toNatClampNeg 0) (by omega)
    exact ⟨N', fun post hp => br_f h10 ⟨hin, nm_e (nm_r (nI_1 i) (hX post hp))⟩, fun post hp => br_f h10 ⟨hin, nm_e (nm_r (nI_1 i) (hY post hp))⟩⟩
theorem rx_targetOf {post : Int32 → Prop} {oc : Nat} {la : Int32} {A C O V W G T P L N R : Nat → Int32} {b : Nat} (hb : b < 10) (hT : vp_in (T b) 4) (k1 : A (T b).toNatClampNeg ≤ 0 → post (L b)) (k2 : ¬ A (T b).toNatClampNeg ≤ 0 → post (P b)) : wpX_targetOf post (rr_X oc la A C O V W G T P L N R) (nI b) := by
  have ec : (nI b).toNatClampNeg = b := nI_clamp (by omega)
  have hin : vp_in (nI b) 10 := vp_in_nI hb (by decide)
  unfold wpX_targetOf
  dsimp only
  rw [ec]
  exact ⟨hin, hT, br_c (fun z => ⟨hin, k1 z⟩) (fun z => ⟨hin, k2 z⟩)⟩
end
section
/-! run: the loop of visits -/
theorem rr_runL (C O V W G T P L e t p l : Nat → Int32) (hC : rr_cnts C) (hS : rr_slots O V W) (hE : rr_ends G T P L e t p l) :
    ∀ (d b oc : Nat) (la : Int32) (A N R Q : Nat → Int32), d ≤ 300 → b < 10 → oc + 3 * d ≤ 900 → rr_ring oc R Q →
    ∃ (r : Int32) (oc' : Nat) (la' : Int32) (A' N' R' Q' : Nat → Int32), oc' ≤ 900 ∧ rr_ring oc' R' Q' ∧
      (∀ post : Int32 → SX → Prop, post r (rr_X oc' la' A' C O V W G T P L N' R') → wX_run_8 post (d + 1) (nI b) (nI (301 - d)) (nI oc) la A C O V W G T P L N R) ∧
      (∀ post : Int32 → SY → Prop, post r (rr_Y oc' la' A' C O V W e t p l N' Q') → wY_run_30 post (d + 1) (nI b) (nI (300 - d)) (nI oc) la C O V W e t p l A Q N) := by
  intro d
  induction d with
  | zero =>
    intro b oc la A N R Q _ hb hoc hR
    have x3 : (300 : Int32) < nI (301 - 0) := by decide
    have y3 : (300 : Int32) ≤ nI (300 - 0) := by decide
    exact ⟨2, oc, la, A, N, R, Q, by omega, hR, fun post hp => br_t x3 hp, fun post hp => br_t y3 hp⟩
  | succ d ih =>
    intro b oc la A N R Q hd hb hoc hR
    have x3 : ¬ (300 : Int32) < nI (301 - (d + 1)) := nI_nlt (a := 300) (by omega) (by decide)
    have y3 : ¬ (300 : Int32) ≤ nI (300 - (d + 1)) := nI_ge (b := 300) (by omega) (by decide)
    have ex : nI (301 - (d + 1)) + 1 = nI (301 - d) := by rw [nI_1]; exact congrArg nI (by omega)
    have ey : nI (300 - (d + 1)) + 1 = nI (300 - d) := by rw [nI_1]; exact congrArg nI (by omega)
    have ec : (nI b).toNatClampNeg = b := nI_clamp (by omega)
    have hin : vp_in (nI b) 10 := vp_in_nI hb (by decide)
    obtain ⟨oc1, A1, R1, Q1, h1, hR1, hX1, hY1⟩ := rr_visit oc la A C O V W G T P L N R e t p l Q b hb hC hS (by omega) hR
    rcases hE b hb with ⟨g, eb⟩ | ⟨g, eb, hP, hp', hL, hT⟩ | ⟨g, eb, hP, hL, hT, hp', hl', ht'⟩
    · refine ⟨1, oc1, nI b, A1, upd N b (N b + 1), R1, Q1, by omega, hR1, fun post hp => ?_, fun post hp => ?_⟩
      · refine br_f x3 (hX1 _ ⟨hin, br_t ?_ hp⟩)
        rw [ec]; exact g
      · refine br_f y3 (hY1 _ ⟨hin, br_t ?_ hp⟩)
        rw [ec]; exact eb
    · obtain ⟨j, hj, ej⟩ := vp_in_of hP (by decide)
      obtain ⟨r, oc2, la2, A2, N2, R2, Q2, h2, hR2, hX2, hY2⟩ := ih j oc1 (nI b) A1 (upd N b (N b + 1)) R1 Q1 (by omega) hj (by omega) hR1
      refine ⟨r, oc2, la2, A2, N2, R2, Q2, h2, hR2, fun post hp => ?_, fun post hp => ?_⟩
      · refine br_f x3 (hX1 _ ⟨hin, br_f ?_ ?_⟩)
        · rw [ec, g]; decide
        · refine rx_targetOf hb (by rw [hT]; exact rr_z4) (fun _ => ?_) (fun _ => ?_)
          · rw [hL, ej]; exact nm_r ex (hX2 post hp)
          · rw [ej]; exact nm_r ex (hX2 post hp)
      · refine br_f y3 (hY1 _ ⟨hin, br_f ?_ ⟨hin, br_t ?_ ⟨hin, nm_r (e' := nI j) ?_ (nm_r ey (hY2 post hp))⟩⟩⟩)
        · rw [ec, eb]; decide
        · rw [ec]; exact eb
        · rw [ec, hp', ej]
    · obtain ⟨j, hj, ej⟩ := vp_in_of hP (by decide)
      obtain ⟨q, hq, eq⟩ := vp_in_of hL (by decide)
      by_cases s : A1 (T b).toNatClampNeg ≤ 0
      · obtain ⟨r, oc2, la2, A2, N2, R2, Q2, h2, hR2, hX2, hY2⟩ := ih q oc1 (nI b) A1 (upd N b (N b + 1)) R1 Q1 (by omega) hq (by omega) hR1
        refine ⟨r, oc2, la2, A2, N2, R2, Q2, h2, hR2, fun post hp => ?_, fun post hp => ?_⟩
        · refine br_f x3 (hX1 _ ⟨hin, br_f ?_ ?_⟩)
          · rw [ec, g]; decide
          · refine rx_targetOf hb hT (fun _ => ?_) (fun z => absurd s z)
            rw [eq]; exact nm_r ex (hX2 post hp)
        · refine br_f y3 (hY1 _ ⟨hin, br_f ?_ ⟨hin, br_f ?_ ⟨hin, ?_, br_t ?_ ⟨hin, nm_r (e' := nI q) ?_ (nm_r ey (hY2 post hp))⟩⟩⟩⟩)
          · rw [ec, eb]; decide
          · rw [ec, eb]; decide
          · rw [ec, ht']; exact hT
          · rw [ec, ht']; exact s
          · rw [ec, hl', eq]
      · obtain ⟨r, oc2, la2, A2, N2, R2, Q2, h2, hR2, hX2, hY2⟩ := ih j oc1 (nI b) A1 (upd N b (N b + 1)) R1 Q1 (by omega) hj (by omega) hR1
        refine ⟨r, oc2, la2, A2, N2, R2, Q2, h2, hR2, fun post hp => ?_, fun post hp => ?_⟩
        · refine br_f x3 (hX1 _ ⟨hin, br_f ?_ ?_⟩)
          · rw [ec, g]; decide
          · refine rx_targetOf hb hT (fun z => absurd z s) (fun _ => ?_)
            rw [ej]; exact nm_r ex (hX2 post hp)
        · refine br_f y3 (hY1 _ ⟨hin, br_f ?_ ⟨hin, br_f ?_ ⟨hin, ?_, br_f ?_ ⟨hin, nm_r (e' := nI j) ?_ (nm_r ey (hY2 post hp))⟩⟩⟩⟩)
          · rw [ec, eb]; decide
          · rw [ec, eb]; decide
          · rw [ec, ht']; exact hT
          · rw [ec, ht']; exact s
          · rw [ec, hp', ej]
theorem i_vc_run {k : Nat} {u : SX} {v : SY} (I : i_Rel k u v) (hk : k + 5 ≤ 2560) : wpX_run (fun r u' => wpY_run (fun r' v' => r' = r ∧ i_Rel (k + 5) u' v') v) u := by
  obtain ⟨oc, la, A, C, O, V, W, G, T, P, L, N, R, e, t, p, l, Q, rfl, rfl, h, hC, hS, hE, hR⟩ := I
  obtain ⟨N1, hX1, hY1⟩ := rr_forget la A C O V W G T P L R e t p l Q 10 0 N rfl
  obtain ⟨r, oc2, la2, A2, N2, R2, Q2, h2, hR2, hX2, hY2⟩ := rr_runL C O V W G T P L e t p l hC hS hE 300 0 0 la A N1 R Q (by decide) (by decide) (by decide) (rr_ring0 R Q)
  unfold wpX_run wpY_run
  dsimp only
  refine ⟨11, hX1 _ ⟨301, hX2 _ ?_⟩⟩
  exact ⟨11, hY1 _ ⟨301, hY2 _ ⟨rfl, rr_mk _ h2 hC hS hE hR2⟩⟩⟩
end
section
/-! reachable: each side's rounds give the least closed set; its members are counted alike -/
section
variable {oc : Nat} {la : Int32} {A C O V W G T P L N R e t p l Q : Nat → Int32}
/-- the component's round -/
theorem rx_wide {post : Int32 → Prop} (hE : rr_ends G T P L e t p l) (r : Int32) (k : ∀ w, rr_mid (rr_E G P L) (bt r) (bt w) 10 → post w) :
    ∀ (d b : Nat) (w : Int32), b + d = 10 → rr_mid (rr_E G P L) (bt r) (bt w) b → wX_withTargets_4 post r (nI oc) la A C O V W G T P L N R (d + 1) w (nI b) := by
  intro d
  induction d with
  | zero =>
    intro b w hb hm
    have e10 : b = 10 := by omega
    subst e10
    exact br_t (by decide) (k w hm)
  | succ d ih =>
    intro b w hb hm
    have h10 : ¬ (10 : Int32) ≤ nI b := nI_ge (b := 10) (by omega) (by decide)
    have hin : vp_in (nI b) 10 := vp_in_nI (by omega) (by decide)
    have ec : (nI b).toNatClampNeg = b := nI_clamp (by omega)
    rw [wX_withTargets_4]
    dsimp only
    rw [ec]
    refine br_f h10 ⟨hin, ?_⟩
    have hg : (G b = 0) ∨ (G b = 1 ∧ vp_in (P b) 10 ∧ vp_in (L b) 10) := by
      rcases hE b (by omega) with ⟨g, _⟩ | ⟨g, _, hP, _, hL, _⟩ | ⟨g, _, hP, hL, _⟩
      · exact Or.inl g
      · exact Or.inr ⟨g, hP, by rw [hL]; exact hP⟩
      · exact Or.inr ⟨g, hP, hL⟩
    rcases hg with g | ⟨g, hP, hL⟩
    · exact br_t g (nm_r (nI_1 b) (ih (b + 1) w (by omega) (rr_skip hm (fun t _ => rr_E0 g t))))
    · refine br_f (by rw [g]; decide) ?_
      by_cases m : bt r b = true
      · have m1 : ¬ (r &&& ((1 : Int32) <<< (nI b &&& 31))) = 0 := by
          rw [rr_tst r (by omega), m]
          decide
        obtain ⟨j, hj, ej⟩ := vp_in_of hP (by decide)
        obtain ⟨q, hq, eq⟩ := vp_in_of hL (by decide)
        refine br_f m1 ⟨hin, hin, nm_e (nm_r (nI_1 b) (ih (b + 1) _ (by omega) ?_))⟩
        refine rr_put hm (by omega) (hm.1 b m) (fun i => ?_)
        rw [ej, eq, rr_or2 w hj hq i, rr_Ei g ej eq hj hq i]
      · have m0 : bt r b = false := by
          cases z : bt r b with
          | true => exact absurd z m
          | false => rfl
        exact br_t ((rr_tst r (by omega)).mpr m0) (nm_r (nI_1 b) (ih (b + 1) w (by omega) (rr_skip hm (fun _ z => absurd z m))))
/-- the reference's round -/
theorem ry_wide {post : Int32 → Prop} {J : Int32 → Int32 → Prop} {x2 : Int32} (hE : rr_ends G T P L e t p l) (r : Int32) (k : ∀ w, rr_mid (rr_E G P L) (bt r) (bt w) 10 → J w (x2 + 1)) :
    ∀ (d b : Nat) (w : Int32), b + d = 10 → rr_mid (rr_E G P L) (bt r) (bt w) b → wY_reachable_12 post J x2 (nI oc) la C O V W e t p l A Q N (d + 1) w (nI b) := by
  intro d
  induction d with
  | zero =>
    intro b w hb hm
    have e10 : b = 10 := by omega
    subst e10
    exact br_t (by decide) (nm_e (k w hm))
  | succ d ih =>
    intro b w hb hm
    have h10 : ¬ (10 : Int32) ≤ nI b := nI_ge (b := 10) (by omega) (by decide)
    have hin : vp_in (nI b) 10 := vp_in_nI (by omega) (by decide)
    have ec : (nI b).toNatClampNeg = b := nI_clamp (by omega)
    rw [wY_reachable_12]
    dsimp only
    rw [ec]
    refine br_f h10 ?_
    by_cases m : bt w b = true
    · have m1 : ((w >>> (nI b &&& 31)) &&& 1) = 1 := by rw [rr_bit w (by omega), if_pos m]
      refine br_t m1 ⟨hin, ?_⟩
      rcases hE b (by omega) with ⟨g, eb⟩ | ⟨g, eb, hP, hp', hL, _⟩ | ⟨g, eb, hP, hL, _, hp', hl', _⟩
      · exact br_t (by rw [eb]; decide) (nm_r (nI_1 b) (ih (b + 1) w (by omega) (rr_skip hm (fun t _ => rr_E0 g t))))
      · obtain ⟨j, hj, ej⟩ := vp_in_of hP (by decide)
        refine br_f (by rw [eb]; decide) ⟨hin, nm_e ⟨hin, br_f (by rw [eb]; decide) (nm_r (nI_1 b) (ih (b + 1) _ (by omega) ?_))⟩⟩
        refine rr_put hm (by omega) m (fun i => ?_)
        rw [hp', ej, rr_or1 w hj i, rr_Ei g ej (by rw [hL, ej]) hj hj i, or_self]
      · obtain ⟨j, hj, ej⟩ := vp_in_of hP (by decide)
        obtain ⟨q, hq, eq⟩ := vp_in_of hL (by decide)
        refine br_f (by rw [eb]; decide) ⟨hin, nm_e ⟨hin, br_t eb ⟨hin, nm_e (nm_r (nI_1 b) (ih (b + 1) _ (by omega) ?_))⟩⟩⟩
        refine rr_put hm (by omega) m (fun i => ?_)
        rw [hp', hl', ej, eq, rr_or3 w hj hq i, rr_Ei g ej eq hj hq i]
    · have m1 : ¬ ((w >>> (nI b &&& 31)) &&& 1) = 1 := by
        rw [rr_bit w (by omega), if_neg m]
        decide
      refine br_f m1 (nm_r (nI_1 b) (ih (b + 1) w (by omega) (rr_skip hm (fun _ z => absurd (hm.1 b z) m))))
theorem rx_count {post : Int32 → Prop} (r : Int32) (k : post (rr_cnt r 10)) : ∀ (d b : Nat), b + d = 10 → wX_countOf_4 post r (nI oc) la A C O V W G T P L N R (d + 1) (rr_cnt r b) (nI b) := by
  intro d
  induction d with
  | zero =>
    intro b hb
    have e10 : b = 10 := by omega
    subst e10
    exact br_t (by decide) k
  | succ d ih =>
    intro b hb
    have h10 : ¬ (10 : Int32) ≤ nI b := nI_ge (b := 10) (by omega) (by decide)
    exact br_f h10 (nm_e (nm_r (nI_1 b) (ih (b + 1) (by omega))))
theorem ry_count {post : Int32 → Prop} (r : Int32) (k : post (rr_cnt r 10)) : ∀ (d b : Nat), b + d = 10 → wY_reachable_88 post r (nI oc) la C O V W e t p l A Q N (d + 1) (rr_cnt r b) (nI b) := by
  intro d
  induction d with
  | zero =>
    intro b hb
    have e10 : b = 10 := by omega
    subst e10
    exact br_t (by decide) k
  | succ d ih =>
    intro b hb
    have h10 : ¬ (10 : Int32) ≤ nI b := nI_ge (b := 10) (by omega) (by decide)
    exact br_f h10 (nm_e (nm_r (nI_1 b) (ih (b + 1) (by omega))))
/-- the component's nine rounds -/
theorem rx_reach {post : Int32 → Prop} (hE : rr_ends G T P L e t p l) (k : ∀ w, rr_inv (rr_E G P L) 9 (bt w) → post (rr_cnt w 10)) :
    ∀ (d i : Nat) (w : Int32), i + d = 9 → rr_inv (rr_E G P L) i (bt w) → wX_reachable_4 post (nI oc) la A C O V W G T P L N R (d + 1) w (nI (i + 1)) := by
  intro d
  induction d with
  | zero =>
    intro i w hi hm
    have e9 : i = 9 := by omega
    subst e9
    refine br_t (by decide) ?_
    exact ⟨11, rx_count w (k w hm) 10 0 rfl⟩
  | succ d ih =>
    intro i w hi hm
    have h10 : ¬ (10 : Int32) ≤ nI (i + 1) := nI_ge (b := 10) (by omega) (by decide)
    refine br_f h10 ?_
    exact ⟨11, rx_wide hE w (fun w' hw => nm_r (nI_1 (i + 1)) (ih (i + 1) w' (by omega) (rr_invS hm hw))) 10 0 w rfl (rr_mid0 _ _)⟩
/-- the reference's ten rounds -/
theorem ry_reach {post : Int32 → Prop} (hE : rr_ends G T P L e t p l) (k : ∀ w, rr_inv (rr_E G P L) 10 (bt w) → post (rr_cnt w 10)) :
    ∀ (d i : Nat) (w : Int32), i + d = 10 → rr_inv (rr_E G P L) i (bt w) → wY_reachable_4 post (nI oc) la C O V W e t p l A Q N (d + 1) w (nI i) := by
  intro d
  induction d with
  | zero =>
    intro i w hi hm
    have e10 : i = 10 := by omega
    subst e10
    refine br_t (by decide) ?_
    exact ⟨11, ry_count w (k w hm) 10 0 rfl⟩
  | succ d ih =>
    intro i w hi hm
    have h10 : ¬ (10 : Int32) ≤ nI i := nI_ge (b := 10) (by omega) (by decide)
    refine br_f h10 ?_
    refine ⟨11, ry_wide hE w (fun w' hw => ?_) 10 0 w rfl (rr_mid0 _ _)⟩
    rw [nI_1 i]
    exact ih (i + 1) w' (by omega) (rr_invS hm hw)
end
theorem i_vc_reachable {k : Nat} {u : SX} {v : SY} (I : i_Rel k u v) (hk : k + 5 ≤ 2560) : wpX_reachable (fun r => wpY_reachable (fun r' => r' = r ∧ i_Rel (k + 5) u v) v) u := by
  have J := I
  obtain ⟨oc, la, A, C, O, V, W, G, T, P, L, N, R, e, t, p, l, Q, rfl, rfl, h, hC, hS, hE, hR⟩ := I
  refine ⟨10, rx_reach hE (fun w hw => ?_) 9 0 1 rfl (rr_inv0 _)⟩
  refine ⟨11, ry_reach hE (fun w' hw' => ?_) 10 0 1 rfl (rr_inv0 _)⟩
  refine ⟨?_, J⟩
  exact rr_cntE (fun b => rr_uniq (rr_E10 G P L) (by decide) (by decide) hw' hw b) 10 (by decide)
end
