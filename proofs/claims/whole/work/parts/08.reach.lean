/-! reachable: each side's rounds give the least closed set; its members are counted alike -/
section
variable {oc : Nat} {la : Int32} {A C O V W G T P L N R e t p l Q : Nat → Int32}
/-- the component's round -/
theorem rx_wide {post : Int32 → Prop} (hE : rr_ends G T P L e t p l) (r : Int32) (k : ∀ w, rr_mid (rr_E G P L) (bt r) (bt w) 10 → post w) :
    ∀ (d b : Nat) (w : Int32), b + d = 10 → rr_mid (rr_E G P L) (bt r) (bt w) b → wX_withTargets_4 post r (nI oc) la A C O V W G T P L N R (d + 1) w (nI b) := by
  intro d
  induction d with
  | zero =>
    intro b w hb hm
    have e10 : b = 10 := by omega
    subst e10
    exact br_t (by decide) (k w hm)
  | succ d ih =>
    intro b w hb hm
    have h10 : ¬ (10 : Int32) ≤ nI b := nI_ge (b := 10) (by omega) (by decide)
    have hin : vp_in (nI b) 10 := vp_in_nI (by omega) (by decide)
    have ec : (nI b).toNatClampNeg = b := nI_clamp (by omega)
    rw [wX_withTargets_4]
    dsimp only
    rw [ec]
    refine br_f h10 ⟨hin, ?_⟩
    have hg : (G b = 0) ∨ (G b = 1 ∧ vp_in (P b) 10 ∧ vp_in (L b) 10) := by
      rcases hE b (by omega) with ⟨g, _⟩ | ⟨g, _, hP, _, hL, _⟩ | ⟨g, _, hP, hL, _⟩
      · exact Or.inl g
      · exact Or.inr ⟨g, hP, by rw [hL]; exact hP⟩
      · exact Or.inr ⟨g, hP, hL⟩
    rcases hg with g | ⟨g, hP, hL⟩
    · exact br_t g (nm_r (nI_1 b) (ih (b + 1) w (by omega) (rr_skip hm (fun t _ => rr_E0 g t))))
    · refine br_f (by rw [g]; decide) ?_
      by_cases m : bt r b = true
      · have m1 : ¬ (r &&& ((1 : Int32) <<< (nI b &&& 31))) = 0 := by
          rw [rr_tst r (by omega), m]
          decide
        obtain ⟨j, hj, ej⟩ := vp_in_of hP (by decide)
        obtain ⟨q, hq, eq⟩ := vp_in_of hL (by decide)
        refine br_f m1 ⟨hin, hin, nm_e (nm_r (nI_1 b) (ih (b + 1) _ (by omega) ?_))⟩
        refine rr_put hm (by omega) (hm.1 b m) (fun i => ?_)
        rw [ej, eq, rr_or2 w hj hq i, rr_Ei g ej eq hj hq i]
      · have m0 : bt r b = false := by
          cases z : bt r b with
          | true => exact absurd z m
          | false => rfl
        exact br_t ((rr_tst r (by omega)).mpr m0) (nm_r (nI_1 b) (ih (b + 1) w (by omega) (rr_skip hm (fun _ z => absurd z m))))
/-- the reference's round -/
theorem ry_wide {post : Int32 → Prop} {J : Int32 → Int32 → Prop} {x2 : Int32} (hE : rr_ends G T P L e t p l) (r : Int32) (k : ∀ w, rr_mid (rr_E G P L) (bt r) (bt w) 10 → J w (x2 + 1)) :
    ∀ (d b : Nat) (w : Int32), b + d = 10 → rr_mid (rr_E G P L) (bt r) (bt w) b → wY_reachable_12 post J x2 (nI oc) la C O V W e t p l A Q N (d + 1) w (nI b) := by
  intro d
  induction d with
  | zero =>
    intro b w hb hm
    have e10 : b = 10 := by omega
    subst e10
    exact br_t (by decide) (nm_e (k w hm))
  | succ d ih =>
    intro b w hb hm
    have h10 : ¬ (10 : Int32) ≤ nI b := nI_ge (b := 10) (by omega) (by decide)
    have hin : vp_in (nI b) 10 := vp_in_nI (by omega) (by decide)
    have ec : (nI b).toNatClampNeg = b := nI_clamp (by omega)
    rw [wY_reachable_12]
    dsimp only
    rw [ec]
    refine br_f h10 ?_
    by_cases m : bt w b = true
    · have m1 : ((w >>> (nI b &&& 31)) &&& 1) = 1 := by rw [rr_bit w (by omega), if_pos m]
      refine br_t m1 ⟨hin, ?_⟩
      rcases hE b (by omega) with ⟨g, eb⟩ | ⟨g, eb, hP, hp', hL, _⟩ | ⟨g, eb, hP, hL, _, hp', hl', _⟩
      · exact br_t (by rw [eb]; decide) (nm_r (nI_1 b) (ih (b + 1) w (by omega) (rr_skip hm (fun t _ => rr_E0 g t))))
      · obtain ⟨j, hj, ej⟩ := vp_in_of hP (by decide)
        refine br_f (by rw [eb]; decide) ⟨hin, nm_e ⟨hin, br_f (by rw [eb]; decide) (nm_r (nI_1 b) (ih (b + 1) _ (by omega) ?_))⟩⟩
        refine rr_put hm (by omega) m (fun i => ?_)
        rw [hp', ej, rr_or1 w hj i, rr_Ei g ej (by rw [hL, ej]) hj hj i, or_self]
      · obtain ⟨j, hj, ej⟩ := vp_in_of hP (by decide)
        obtain ⟨q, hq, eq⟩ := vp_in_of hL (by decide)
        refine br_f (by rw [eb]; decide) ⟨hin, nm_e ⟨hin, br_t eb ⟨hin, nm_e (nm_r (nI_1 b) (ih (b + 1) _ (by omega) ?_))⟩⟩⟩
        refine rr_put hm (by omega) m (fun i => ?_)
        rw [hp', hl', ej, eq, rr_or3 w hj hq i, rr_Ei g ej eq hj hq i]
    · have m1 : ¬ ((w >>> (nI b &&& 31)) &&& 1) = 1 := by
        rw [rr_bit w (by omega), if_neg m]
        decide
      refine br_f m1 (nm_r (nI_1 b) (ih (b + 1) w (by omega) (rr_skip hm (fun _ z => absurd (hm.1 b z) m))))
theorem rx_count {post : Int32 → Prop} (r : Int32) (k : post (rr_cnt r 10)) : ∀ (d b : Nat), b + d = 10 → wX_countOf_4 post r (nI oc) la A C O V W G T P L N R (d + 1) (rr_cnt r b) (nI b) := by
  intro d
  induction d with
  | zero =>
    intro b hb
    have e10 : b = 10 := by omega
    subst e10
    exact br_t (by decide) k
  | succ d ih =>
    intro b hb
    have h10 : ¬ (10 : Int32) ≤ nI b := nI_ge (b := 10) (by omega) (by decide)
    exact br_f h10 (nm_e (nm_r (nI_1 b) (ih (b + 1) (by omega))))
theorem ry_count {post : Int32 → Prop} (r : Int32) (k : post (rr_cnt r 10)) : ∀ (d b : Nat), b + d = 10 → wY_reachable_88 post r (nI oc) la C O V W e t p l A Q N (d + 1) (rr_cnt r b) (nI b) := by
  intro d
  induction d with
  | zero =>
    intro b hb
    have e10 : b = 10 := by omega
    subst e10
    exact br_t (by decide) k
  | succ d ih =>
    intro b hb
    have h10 : ¬ (10 : Int32) ≤ nI b := nI_ge (b := 10) (by omega) (by decide)
    exact br_f h10 (nm_e (nm_r (nI_1 b) (ih (b + 1) (by omega))))
/-- the component's nine rounds -/
theorem rx_reach {post : Int32 → Prop} (hE : rr_ends G T P L e t p l) (k : ∀ w, rr_inv (rr_E G P L) 9 (bt w) → post (rr_cnt w 10)) :
    ∀ (d i : Nat) (w : Int32), i + d = 9 → rr_inv (rr_E G P L) i (bt w) → wX_reachable_4 post (nI oc) la A C O V W G T P L N R (d + 1) w (nI (i + 1)) := by
  intro d
  induction d with
  | zero =>
    intro i w hi hm
    have e9 : i = 9 := by omega
    subst e9
    refine br_t (by decide) ?_
    exact ⟨11, rx_count w (k w hm) 10 0 rfl⟩
  | succ d ih =>
    intro i w hi hm
    have h10 : ¬ (10 : Int32) ≤ nI (i + 1) := nI_ge (b := 10) (by omega) (by decide)
    refine br_f h10 ?_
    exact ⟨11, rx_wide hE w (fun w' hw => nm_r (nI_1 (i + 1)) (ih (i + 1) w' (by omega) (rr_invS hm hw))) 10 0 w rfl (rr_mid0 _ _)⟩
/-- the reference's ten rounds -/
theorem ry_reach {post : Int32 → Prop} (hE : rr_ends G T P L e t p l) (k : ∀ w, rr_inv (rr_E G P L) 10 (bt w) → post (rr_cnt w 10)) :
    ∀ (d i : Nat) (w : Int32), i + d = 10 → rr_inv (rr_E G P L) i (bt w) → wY_reachable_4 post (nI oc) la C O V W e t p l A Q N (d + 1) w (nI i) := by
  intro d
  induction d with
  | zero =>
    intro i w hi hm
    have e10 : i = 10 := by omega
    subst e10
    refine br_t (by decide) ?_
    exact ⟨11, ry_count w (k w hm) 10 0 rfl⟩
  | succ d ih =>
    intro i w hi hm
    have h10 : ¬ (10 : Int32) ≤ nI i := nI_ge (b := 10) (by omega) (by decide)
    refine br_f h10 ?_
    refine ⟨11, ry_wide hE w (fun w' hw => ?_) 10 0 w rfl (rr_mid0 _ _)⟩
    rw [nI_1 i]
    exact ih (i + 1) w' (by omega) (rr_invS hm hw)
end
theorem i_vc_reachable {k : Nat} {u : SX} {v : SY} (I : i_Rel k u v) (hk : k + 5 ≤ 2560) : wpX_reachable (fun r => wpY_reachable (fun r' => r' = r ∧ i_Rel (k + 5) u v) v) u := by
  have J := I
  obtain ⟨oc, la, A, C, O, V, W, G, T, P, L, N, R, e, t, p, l, Q, rfl, rfl, h, hC, hS, hE, hR⟩ := I
  refine ⟨10, rx_reach hE (fun w hw => ?_) 9 0 1 rfl (rr_inv0 _)⟩
  refine ⟨11, ry_reach hE (fun w' hw' => ?_) 10 0 1 rfl (rr_inv0 _)⟩
  refine ⟨?_, J⟩
  exact rr_cntE (fun b => rr_uniq (rr_E10 G P L) (by decide) (by decide) hw' hw b) 10 (by decide)
