/-! run: both sides walk in step; what one slot, one visit, the whole run leaves is one row of values -/
theorem rx_append {post : SX → Prop} {oc : Nat} {la : Int32} {A C O V W G T P L N R : Nat → Int32} {x : Int32} (hoc : oc < 100000) (hp : post (rr_X (oc + 1) la A C O V W G T P L N (upd R (oc % 16) x))) : wpX_append post (rr_X oc la A C O V W G T P L N R) x := by
  have e : nI oc - nI oc / 16 * 16 = nI (oc % 16) := pk_rem (d := 16) (by omega) (by decide) (by decide)
  have ec : (nI (oc % 16)).toNatClampNeg = oc % 16 := nI_clamp (by omega)
  unfold wpX_append
  dsimp only
  rw [e, ec]
  exact ⟨by decide, vp_in_nI (Nat.mod_lt _ (by decide)) (by decide), nm_e (nm_r (nI_1 oc) hp)⟩
theorem ry_outL {post : SY → Prop} {oc : Nat} {la : Int32} {A C O V W e t p l N Q : Nat → Int32} {x : Int32} (hp : post (rr_Y (oc + 1) la A C O V W e t p l N (rr_push Q x))) : ∀ i, i ≤ 15 → wY_out_3 post x (nI oc) la (i + 1) (nI i) C O V W e t p l A (rr_mv Q i) N := by
  intro i
  induction i with
  | zero =>
    intro _
    exact br_t (by decide) (nm_e (nm_r (nI_1 oc) hp))
  | succ i ih =>
    intro hi
    have n0 : ¬ nI (i + 1) ≤ 0 := nI_nle (by omega) (by omega)
    have e1 : nI (i + 1) - 1 = nI i := nI_pred i
    have c1 : (nI (i + 1)).toNatClampNeg = i + 1 := nI_clamp (by omega)
    have c2 : (nI i).toNatClampNeg = i := nI_clamp (by omega)
    rw [wY_out_3]
    dsimp only
    refine br_f n0 ?_
    rw [e1, c1, c2]
    exact ⟨vp_in_nI (by omega) (by decide), vp_in_nI (by omega) (by decide), nm_r (rr_mvS Q (by omega)) (nm_r (pk_m1 i) (ih (by omega)))⟩
theorem ry_out {post : SY → Prop} {oc : Nat} {la : Int32} {A C O V W e t p l N Q : Nat → Int32} {x : Int32} (hp : post (rr_Y (oc + 1) la A C O V W e t p l N (rr_push Q x))) : wpY_out post (rr_Y oc la A C O V W e t p l N Q) x := by
  have h := ry_outL hp 15 (by decide)
  rw [rr_mv15] at h
  exact ⟨16, h⟩
/-- one slot carried out -/
theorem rr_co (oc : Nat) (la : Int32) (A C O V W G T P L N R e t p l Q : Nat → Int32) (x : Int32) (hoc : oc < 100000) (hx : vp_in x 30) (hs : rr_slot O V W x.toNatClampNeg) (hR : rr_ring oc R Q) :
    ∃ (oc' : Nat) (A' R' Q' : Nat → Int32), oc' ≤ oc + 1 ∧ rr_ring oc' R' Q' ∧
      (∀ post : SX → Prop, post (rr_X oc' la A' C O V W G T P L N R') → wpX_carryOut post (rr_X oc la A C O V W G T P L N R) x) ∧
      (∀ post : SY → Prop, post (rr_Y oc' la A' C O V W e t p l N Q') → wpY_carryOut post (rr_Y oc la A C O V W e t p l N Q) x) := by
  obtain ⟨hv, ho⟩ := hs
  rcases ho with ho | ⟨ho, hw⟩ | ⟨ho, hw⟩ | ⟨ho, hw⟩ | ho | ho
  · refine ⟨oc, upd A (V x.toNatClampNeg).toNatClampNeg (W x.toNatClampNeg), R, Q, by omega, hR, fun post hp => ?_, fun post hp => ?_⟩
    · exact ⟨hx, nm_e ⟨hx, nm_e ⟨hx, nm_r ho (br_f (by decide) (br_f (by decide) (br_t rfl ⟨hv, nm_e hp⟩)))⟩⟩⟩
    · have h32 : ∀ z0, wY_carryOut_32 post x (V x.toNatClampNeg) (W x.toNatClampNeg) z0 (nI oc) la C O V W e t p l A Q N := fun z0 => ⟨hx, br_t ho ⟨hv, nm_e hp⟩⟩
      exact ⟨hx, nm_e ⟨hx, nm_e (ry_badVariable (fun hw => br_t rfl ⟨hw, h32 _⟩) (fun _ => br_f rr_10 (h32 _)))⟩⟩
  · have n0 := rr_ne ho (c := 0) (by decide)
    refine ⟨oc, upd A (V x.toNatClampNeg).toNatClampNeg (A (V x.toNatClampNeg).toNatClampNeg + A (W x.toNatClampNeg).toNatClampNeg), R, Q, by omega, hR, fun post hp => ?_, fun post hp => ?_⟩
    · exact ⟨hx, nm_e ⟨hx, nm_e ⟨hx, nm_r ho (br_f (by decide) (br_f (by decide) (br_f (by decide) (br_t rfl ⟨hv, hw, hv, nm_e hp⟩))))⟩⟩⟩
    · have h32 : wY_carryOut_32 post x (V x.toNatClampNeg) (W x.toNatClampNeg) (A (W x.toNatClampNeg).toNatClampNeg) (nI oc) la C O V W e t p l A Q N := ⟨hx, br_f n0 ⟨hx, br_t ho ⟨hv, hv, nm_e hp⟩⟩⟩
      exact ⟨hx, nm_e ⟨hx, nm_e (ry_badVariable (fun hw => br_t rfl ⟨hw, h32⟩) (fun z => absurd hw z))⟩⟩
  · have n0 := rr_ne ho (c := 0) (by decide)
    have n1 := rr_ne ho (c := 1) (by decide)
    refine ⟨oc, upd A (V x.toNatClampNeg).toNatClampNeg (A (V x.toNatClampNeg).toNatClampNeg - A (W x.toNatClampNeg).toNatClampNeg), R, Q, by omega, hR, fun post hp => ?_, fun post hp => ?_⟩
    · exact ⟨hx, nm_e ⟨hx, nm_e ⟨hx, nm_r ho (br_f (by decide) (br_f (by decide) (br_f (by decide) (br_f (by decide) (br_t rfl ⟨hv, hw, hv, nm_e hp⟩)))))⟩⟩⟩
    · have h32 : wY_carryOut_32 post x (V x.toNatClampNeg) (W x.toNatClampNeg) (A (W x.toNatClampNeg).toNatClampNeg) (nI oc) la C O V W e t p l A Q N := ⟨hx, br_f n0 ⟨hx, br_f n1 ⟨hx, br_t ho ⟨hv, hv, nm_e hp⟩⟩⟩⟩
      exact ⟨hx, nm_e ⟨hx, nm_e (ry_badVariable (fun hw => br_t rfl ⟨hw, h32⟩) (fun z => absurd hw z))⟩⟩
  · have n0 := rr_ne ho (c := 0) (by decide)
    have n1 := rr_ne ho (c := 1) (by decide)
    have n2 := rr_ne ho (c := 2) (by decide)
    refine ⟨oc, upd A (V x.toNatClampNeg).toNatClampNeg (A (V x.toNatClampNeg).toNatClampNeg * A (W x.toNatClampNeg).toNatClampNeg), R, Q, by omega, hR, fun post hp => ?_, fun post hp => ?_⟩
    · exact ⟨hx, nm_e ⟨hx, nm_e ⟨hx, nm_r ho (br_f (by decide) (br_f (by decide) (br_f (by decide) (br_f (by decide) (br_f (by decide) (br_t rfl ⟨hv, hw, hv, nm_e hp⟩))))))⟩⟩⟩
    · have h32 : wY_carryOut_32 post x (V x.toNatClampNeg) (W x.toNatClampNeg) (A (W x.toNatClampNeg).toNatClampNeg) (nI oc) la C O V W e t p l A Q N := ⟨hx, br_f n0 ⟨hx, br_f n1 ⟨hx, br_f n2 ⟨hx, br_t ho ⟨hv, hv, nm_e hp⟩⟩⟩⟩⟩
      exact ⟨hx, nm_e ⟨hx, nm_e (ry_badVariable (fun hw => br_t rfl ⟨hw, h32⟩) (fun z => absurd hw z))⟩⟩
  · have n0 := rr_ne ho (c := 0) (by decide)
    have n1 := rr_ne ho (c := 1) (by decide)
    have n2 := rr_ne ho (c := 2) (by decide)
    have n3 := rr_ne ho (c := 3) (by decide)
    refine ⟨oc, upd A (V x.toNatClampNeg).toNatClampNeg (A (V x.toNatClampNeg).toNatClampNeg + W x.toNatClampNeg), R, Q, by omega, hR, fun post hp => ?_, fun post hp => ?_⟩
    · exact ⟨hx, nm_e ⟨hx, nm_e ⟨hx, nm_r ho (br_f (by decide) (br_f (by decide) (br_f (by decide) (br_f (by decide) (br_f (by decide) (br_f (by decide) (br_t rfl ⟨hv, hv, nm_e hp⟩)))))))⟩⟩⟩
    · have h32 : ∀ z0, wY_carryOut_32 post x (V x.toNatClampNeg) (W x.toNatClampNeg) z0 (nI oc) la C O V W e t p l A Q N := fun z0 => ⟨hx, br_f n0 ⟨hx, br_f n1 ⟨hx, br_f n2 ⟨hx, br_f n3 ⟨hx, br_t ho ⟨hv, hv, nm_e hp⟩⟩⟩⟩⟩⟩
      exact ⟨hx, nm_e ⟨hx, nm_e (ry_badVariable (fun hw => br_t rfl ⟨hw, h32 _⟩) (fun _ => br_f rr_10 (h32 _)))⟩⟩
  · have n0 := rr_ne ho (c := 0) (by decide)
    have n1 := rr_ne ho (c := 1) (by decide)
    have n2 := rr_ne ho (c := 2) (by decide)
    have n3 := rr_ne ho (c := 3) (by decide)
    have n4 := rr_ne ho (c := 4) (by decide)
    refine ⟨oc + 1, A, upd R (oc % 16) (A (V x.toNatClampNeg).toNatClampNeg), rr_push Q (A (V x.toNatClampNeg).toNatClampNeg), by omega, rr_ringS hR _, fun post hp => ?_, fun post hp => ?_⟩
    · exact ⟨hx, nm_e ⟨hx, nm_e ⟨hx, nm_r ho (br_f (by decide) (br_t (by decide) ⟨hv, rx_append hoc hp⟩))⟩⟩⟩
    · have h32 : ∀ z0, wY_carryOut_32 post x (V x.toNatClampNeg) (W x.toNatClampNeg) z0 (nI oc) la C O V W e t p l A Q N := fun z0 => ⟨hx, br_f n0 ⟨hx, br_f n1 ⟨hx, br_f n2 ⟨hx, br_f n3 ⟨hx, br_f n4 ⟨hv, ry_out hp⟩⟩⟩⟩⟩⟩
      exact ⟨hx, nm_e ⟨hx, nm_e (ry_badVariable (fun hw => br_t rfl ⟨hw, h32 _⟩) (fun _ => br_f rr_10 (h32 _)))⟩⟩
/-- the slots of a block from the j-th on -/
theorem rr_visL (la : Int32) (C O V W G T P L N e t p l : Nat → Int32) (b c : Nat) (hb : b < 10) (hc : c ≤ 3) (hCb : C b = nI c) (hS : rr_slots O V W) :
    ∀ (d j oc : Nat) (A R Q : Nat → Int32), j + d = c → oc + d < 100000 → rr_ring oc R Q →
    ∃ (oc' : Nat) (A' R' Q' : Nat → Int32), oc' ≤ oc + d ∧ rr_ring oc' R' Q' ∧
      (∀ post : SX → Prop, post (rr_X oc' la A' C O V W G T P L N R') → wX_visit_31 post (nI (b * 3 + c)) (d + 1) (nI (b * 3 + j)) (nI oc) la A C O V W G T P L N R) ∧
      (∀ post : SY → Prop, post (rr_Y oc' la A' C O V W e t p l N Q') → wY_enter_21 post (nI b) (d + 1) (nI j) (nI oc) la C O V W e t p l A Q N) := by
  have ec : (nI b).toNatClampNeg = b := nI_clamp (by omega)
  have hin : vp_in (nI b) 10 := vp_in_nI hb (by decide)
  intro d
  induction d with
  | zero =>
    intro j oc A R Q hj hoc hR
    refine ⟨oc, A, R, Q, by omega, hR, fun post hp => br_t (nI_le (by omega) (by omega)) hp, fun post hp => ⟨hin, br_t ?_ hp⟩⟩
    rw [ec, hCb]
    exact nI_le (by omega) (by omega)
  | succ d ih =>
    intro j oc A R Q hj hoc hR
    have h30 : vp_in (nI (b * 3 + j)) 30 := vp_in_nI (by omega) (by decide)
    have es : (nI (b * 3 + j)).toNatClampNeg = b * 3 + j := nI_clamp (by omega)
    obtain ⟨oc1, A1, R1, Q1, h1, hR1, hX1, hY1⟩ := rr_co oc la A C O V W G T P L N R e t p l Q (nI (b * 3 + j)) (by omega) h30 (by rw [es]; exact hS _ (by omega)) hR
    obtain ⟨oc2, A2, R2, Q2, h2, hR2, hX2, hY2⟩ := ih (j + 1) oc1 A1 R1 Q1 (by omega) (by omega) hR1
    refine ⟨oc2, A2, R2, Q2, by omega, hR2, fun post hp => ?_, fun post hp => ?_⟩
    · refine br_f (nI_ge (by omega) (by omega)) ?_
      refine hX1 _ ?_
      exact nm_r (nI_1 _) (hX2 post hp)
    · refine ⟨hin, br_f ?_ ?_⟩
      · rw [ec, hCb]
        exact nI_ge (by omega) (by omega)
      · rw [rr_at]
        refine hY1 _ ?_
        exact nm_r (nI_1 _) (hY2 post hp)
/-- one visit -/
theorem rr_visit (oc : Nat) (la : Int32) (A C O V W G T P L N R e t p l Q : Nat → Int32) (b : Nat) (hb : b < 10) (hC : rr_cnts C) (hS : rr_slots O V W) (hoc : oc < 50000) (hR : rr_ring oc R Q) :
    ∃ (oc' : Nat) (A' R' Q' : Nat → Int32), oc' ≤ oc + 3 ∧ rr_ring oc' R' Q' ∧
      (∀ post : SX → Prop, post (rr_X oc' (nI b) A' C O V W G T P L (upd N b (N b + 1)) R') → wpX_visit post (rr_X oc la A C O V W G T P L N R) (nI b)) ∧
      (∀ post : SY → Prop, post (rr_Y oc' (nI b) A' C O V W e t p l (upd N b (N b + 1)) Q') → wpY_enter post (rr_Y oc la A C O V W e t p l N Q) (nI b)) := by
  have ec : (nI b).toNatClampNeg = b := nI_clamp (by omega)
  have hin : vp_in (nI b) 10 := vp_in_nI hb (by decide)
  obtain ⟨c, hc, hCb⟩ := hC b hb
  obtain ⟨oc1, A1, R1, Q1, h1, hR1, hX1, hY1⟩ := rr_visL (nI b) C O V W G T P L (upd N b (N b + 1)) e t p l b c hb hc hCb hS c 0 oc A R Q (by omega) (by omega) hR
  refine ⟨oc1, A1, R1, Q1, by omega, hR1, fun post hp => ?_, fun post hp => ?_⟩
  · unfold wpX_visit
    dsimp only
    rw [ec, hCb]
    exact ⟨hin, hin, nm_e (nm_r (pk_mul b 3) ⟨hin, nm_r (nI_add _ _) ⟨_, hX1 post hp⟩⟩)⟩
  · unfold wpY_enter
    dsimp only
    rw [ec]
    exact ⟨hin, hin, nm_e ⟨_, hY1 post hp⟩⟩
/-- the counts of visits forgotten from the i-th on -/
theorem rr_forget (la : Int32) (A C O V W G T P L R e t p l Q : Nat → Int32) : ∀ (d i : Nat) (N : Nat → Int32), i + d = 10 →
    ∃ N' : Nat → Int32,
      (∀ post : SX → Prop, post (rr_X 0 la A C O V W G T P L N' R) → wX_forgetLastRun_7 post 0 la (d + 1) (nI i) A C O V W G T P L N R) ∧
      (∀ post : Int32 → SY → Prop, (∃ n30 : Nat, wY_run_30 post n30 0 0 0 la C O V W e t p l A Q N') → wY_run_7 post 0 la (d + 1) (nI i) C O V W e t p l A Q N) := by
  intro d
  induction d with
  | zero =>
    intro i N hi
    have h10 : (10 : Int32) ≤ nI i := nI_le (a := 10) (by omega) (by omega)
    exact ⟨N, fun post hp => br_t h10 hp, fun post hp => br_t h10 hp⟩
  | succ d ih =>
    intro i N hi
    have h10 : ¬ (10 : Int32) ≤ nI i := nI_ge (b := 10) (by omega) (by decide)
    have hin : vp_in (nI i) 10 := vp_in_nI (by omega) (by decide)
    obtain ⟨N', hX, hY⟩ := ih (i + 1) (upd N (nI i).toNatClampNeg 0) (by omega)
    exact ⟨N', fun post hp => br_f h10 ⟨hin, nm_e (nm_r (nI_1 i) (hX post hp))⟩, fun post hp => br_f h10 ⟨hin, nm_e (nm_r (nI_1 i) (hY post hp))⟩⟩
theorem rx_targetOf {post : Int32 → Prop} {oc : Nat} {la : Int32} {A C O V W G T P L N R : Nat → Int32} {b : Nat} (hb : b < 10) (hT : vp_in (T b) 4) (k1 : A (T b).toNatClampNeg ≤ 0 → post (L b)) (k2 : ¬ A (T b).toNatClampNeg ≤ 0 → post (P b)) : wpX_targetOf post (rr_X oc la A C O V W G T P L N R) (nI b) := by
  have ec : (nI b).toNatClampNeg = b := nI_clamp (by omega)
  have hin : vp_in (nI b) 10 := vp_in_nI hb (by decide)
  unfold wpX_targetOf
  dsimp only
  rw [ec]
  exact ⟨hin, hT, br_c (fun z => ⟨hin, k1 z⟩) (fun z => ⟨hin, k2 z⟩)⟩
