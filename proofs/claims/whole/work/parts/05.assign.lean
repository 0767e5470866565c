/-! assign and output -/
section
variable {oc : Nat} {la : Int32} {A C O V W G T P L N R e t p l Q : Nat → Int32}
theorem rx_as {post : Int32 → SX → Prop} {b c : Nat} {x2 x3 x4 : Int32} (hb : b < 10) (hc : c < 3) (h : C b = nI c) (hp : post (nI (c + 1)) (rr_X oc la A (upd C b (nI (c + 1))) (upd O (b * 3 + c) x2) (upd V (b * 3 + c) x3) (upd W (b * 3 + c) x4) G T P L N R)) : wX_assign_50 post (nI b) x2 x3 x4 (nI oc) la A C O V W G T P L N R := by
  have ec : (nI b).toNatClampNeg = b := nI_clamp (by omega)
  have es : (nI (b * 3 + c)).toNatClampNeg = b * 3 + c := nI_clamp (by omega)
  have hin : vp_in (nI b) 10 := vp_in_nI hb (by decide)
  have h30 : vp_in (nI (b * 3 + c)) 30 := vp_in_nI (by omega) (by decide)
  have hlt : nI c < 3 := nI_lt (b := 3) hc (by decide)
  unfold wX_assign_50
  rw [ec, h]
  refine ⟨hin, br_t hlt ⟨hin, nm_r (rr_at b c) ?_⟩⟩
  rw [es]
  refine ⟨h30, nm_e ⟨h30, nm_e ⟨h30, nm_e ⟨hin, hin, nm_r (e' := upd C b (nI (c + 1))) (by rw [nI_1]) ⟨hin, ?_⟩⟩⟩⟩⟩
  rw [pk_us]
  exact hp
theorem rx_asF {post : Int32 → SX → Prop} {b : Nat} {x2 x3 x4 : Int32} (hb : b < 10) (h : C b = nI 3) (hp : post (-4) (rr_X oc la A C O V W G T P L N R)) : wX_assign_50 post (nI b) x2 x3 x4 (nI oc) la A C O V W G T P L N R := by
  have ec : (nI b).toNatClampNeg = b := nI_clamp (by omega)
  have hin : vp_in (nI b) 10 := vp_in_nI hb (by decide)
  have hlt : ¬ nI 3 < 3 := by decide
  unfold wX_assign_50
  rw [ec, h]
  exact ⟨hin, br_f hlt hp⟩
theorem ry_as {post : Int32 → SY → Prop} {b c : Nat} {x2 x3 x4 : Int32} (hb : b < 10) (hc : c < 3) (h : C b = nI c) (hp : post (nI (c + 1)) (rr_Y oc la A (upd C b (nI (c + 1))) (upd O (b * 3 + c) x2) (upd V (b * 3 + c) x3) (upd W (b * 3 + c) x4) e t p l N Q)) : wY_assign_52 post (nI b) x2 x3 x4 (nI oc) la C O V W e t p l A Q N := by
  have ec : (nI b).toNatClampNeg = b := nI_clamp (by omega)
  have es : (nI (b * 3 + c)).toNatClampNeg = b * 3 + c := nI_clamp (by omega)
  have hin : vp_in (nI b) 10 := vp_in_nI hb (by decide)
  have h30 : vp_in (nI (b * 3 + c)) 30 := vp_in_nI (by omega) (by decide)
  have hne : ¬ nI c = 3 := fun z => absurd ((nI_eq (b := 3) (by omega) (by decide)).mp z) (by omega)
  unfold wY_assign_52
  rw [ec, h]
  refine ⟨hin, nm_e (br_f hne ?_)⟩
  rw [rr_at, es, nI_1]
  exact ⟨h30, nm_e ⟨h30, nm_e ⟨h30, nm_e ⟨hin, nm_e hp⟩⟩⟩⟩
theorem ry_asF {post : Int32 → SY → Prop} {b : Nat} {x2 x3 x4 : Int32} (hb : b < 10) (h : C b = nI 3) (hp : post (-4) (rr_Y oc la A C O V W e t p l N Q)) : wY_assign_52 post (nI b) x2 x3 x4 (nI oc) la C O V W e t p l A Q N := by
  have ec : (nI b).toNatClampNeg = b := nI_clamp (by omega)
  have hin : vp_in (nI b) 10 := vp_in_nI hb (by decide)
  unfold wY_assign_52
  rw [ec, h]
  exact ⟨hin, nm_e (br_t rfl hp)⟩
/-- the component's assign: refused by the block, by the op, by a variable, or on to its place -/
theorem rx_assign {post : Int32 → SX → Prop} {x1 x2 x3 x4 : Int32}
    (k1 : ¬ vp_in x1 10 → post (-1) (rr_X oc la A C O V W G T P L N R))
    (k2 : vp_in x1 10 → ¬ (¬ x2 < 0 ∧ x2 ≤ 5) → post (-3) (rr_X oc la A C O V W G T P L N R))
    (k3 : vp_in x1 10 → ¬ x2 < 0 → x2 ≤ 5 → ¬ (vp_in x3 4 ∧ ((x2 = 1 ∨ x2 = 2 ∨ x2 = 3) → vp_in x4 4)) → post (-2) (rr_X oc la A C O V W G T P L N R))
    (k4 : vp_in x1 10 → ¬ x2 < 0 → x2 ≤ 5 → vp_in x3 4 → ((x2 = 1 ∨ x2 = 2 ∨ x2 = 3) → vp_in x4 4) → wX_assign_50 post x1 x2 x3 x4 (nI oc) la A C O V W G T P L N R) :
    wpX_assign post (rr_X oc la A C O V W G T P L N R) x1 x2 x3 x4 := by
  unfold wpX_assign
  dsimp only
  refine rx_isBlock (fun h1 => br_f rr_10 ?_) (fun z => br_t rfl (k1 z))
  by_cases a : x2 < 0
  · exact br_t a (k2 h1 (fun z => z.1 a))
  · refine br_f a ?_
    by_cases b : x2 ≤ 5
    · refine br_t b ?_
      refine rx_isVariable (fun h3 => br_f rr_10 ?_) (fun z => br_t rfl (k3 h1 a b (fun y => z y.1)))
      refine rx_reads (fun hr => br_f rr_10 ?_) (fun hr => br_t rfl (k4 h1 a b h3 (fun z => absurd z hr)))
      exact rx_isVariable (fun h4 => br_f rr_10 (k4 h1 a b h3 (fun _ => h4))) (fun z => br_t rfl (k3 h1 a b (fun y => z (y.2 hr))))
    · exact br_f b (k2 h1 (fun z => b z.2))
theorem ry_assign {post : Int32 → SY → Prop} {x1 x2 x3 x4 : Int32}
    (k1 : ¬ vp_in x1 10 → post (-1) (rr_Y oc la A C O V W e t p l N Q))
    (k2 : vp_in x1 10 → ¬ (¬ x2 < 0 ∧ x2 ≤ 5) → post (-3) (rr_Y oc la A C O V W e t p l N Q))
    (k3 : vp_in x1 10 → ¬ x2 < 0 → x2 ≤ 5 → ¬ (vp_in x3 4 ∧ ((x2 = 1 ∨ x2 = 2 ∨ x2 = 3) → vp_in x4 4)) → post (-2) (rr_Y oc la A C O V W e t p l N Q))
    (k4 : vp_in x1 10 → ¬ x2 < 0 → x2 ≤ 5 → vp_in x3 4 → ((x2 = 1 ∨ x2 = 2 ∨ x2 = 3) → vp_in x4 4) → wY_assign_52 post x1 x2 x3 x4 (nI oc) la C O V W e t p l A Q N) :
    wpY_assign post (rr_Y oc la A C O V W e t p l N Q) x1 x2 x3 x4 := by
  unfold wpY_assign
  dsimp only
  refine ry_bad (fun h1 => br_t rfl ?_) (fun z => br_f rr_10 (k1 z))
  by_cases a : x2 < 0
  · exact br_t a (k2 h1 (fun z => z.1 a))
  · refine br_f a ?_
    by_cases b : x2 ≤ 5
    · refine br_t b ?_
      refine ry_badVariable (fun h3 => br_t rfl ?_) (fun z => br_f rr_10 (k3 h1 a b (fun y => z y.1)))
      rcases rr_op6 a b with rfl | rfl | rfl | rfl | rfl | rfl
      · exact br_t (by decide) (k4 h1 a b h3 (fun z => absurd z (by decide)))
      · exact br_f (by decide) (br_f (by decide) (ry_badVariable (fun h4 => br_t rfl (k4 h1 a b h3 (fun _ => h4))) (fun z => br_f rr_10 (k3 h1 a b (fun y => z (y.2 (by decide)))))))
      · exact br_f (by decide) (br_f (by decide) (ry_badVariable (fun h4 => br_t rfl (k4 h1 a b h3 (fun _ => h4))) (fun z => br_f rr_10 (k3 h1 a b (fun y => z (y.2 (by decide)))))))
      · exact br_f (by decide) (br_f (by decide) (ry_badVariable (fun h4 => br_t rfl (k4 h1 a b h3 (fun _ => h4))) (fun z => br_f rr_10 (k3 h1 a b (fun y => z (y.2 (by decide)))))))
      · exact br_f (by decide) (br_t (by decide) (k4 h1 a b h3 (fun z => absurd z (by decide))))
      · exact br_f (by decide) (br_t (by decide) (k4 h1 a b h3 (fun z => absurd z (by decide))))
    · exact br_f b (k2 h1 (fun z => b z.2))
end
theorem i_vc_assign {k : Nat} {u : SX} {v : SY} (I : i_Rel k u v) (hk : k + 5 ≤ 2560) (v1 : Int32) (v2 : Int32) (v3 : Int32) (v4 : Int32) : wpX_assign (fun r u' => wpY_assign (fun r' v' => r' = r ∧ i_Rel (k + 5) u' v') v v1 v2 v3 v4) u v1 v2 v3 v4 := by
  obtain ⟨oc, la, A, C, O, V, W, G, T, P, L, N, R, e, t, p, l, Q, rfl, rfl, h, hC, hS, hE, hR⟩ := I
  have J := rr_mk (k + 5) (la := la) (A := A) (N := N) h hC hS hE hR
  refine rx_assign (fun a => ?_) (fun a1 a2 => ?_) (fun a1 a2 a3 a4 => ?_) (fun a1 a2 a3 a4 a5 => ?_)
  · exact ry_assign (fun _ => ⟨rfl, J⟩) (fun z => absurd z a) (fun z => absurd z a) (fun z => absurd z a)
  · exact ry_assign (fun z => absurd a1 z) (fun _ _ => ⟨rfl, J⟩) (fun _ b2 b3 => absurd ⟨b2, b3⟩ a2) (fun _ b2 b3 => absurd ⟨b2, b3⟩ a2)
  · exact ry_assign (fun z => absurd a1 z) (fun _ z => absurd ⟨a2, a3⟩ z) (fun _ _ _ _ => ⟨rfl, J⟩) (fun _ _ _ b4 b5 => absurd ⟨b4, b5⟩ a4)
  · obtain ⟨b, hb, rfl⟩ := vp_in_of a1 (by decide)
    obtain ⟨c, hc, ec⟩ := hC b hb
    have ho : v2 = 0 ∨ (v2 = 1 ∧ vp_in v4 4) ∨ (v2 = 2 ∧ vp_in v4 4) ∨ (v2 = 3 ∧ vp_in v4 4) ∨ v2 = 4 ∨ v2 = 5 := by
      rcases rr_op6 a2 a3 with z | z | z | z | z | z
      · exact Or.inl z
      · exact Or.inr (Or.inl ⟨z, a5 (Or.inl z)⟩)
      · exact Or.inr (Or.inr (Or.inl ⟨z, a5 (Or.inr (Or.inl z))⟩))
      · exact Or.inr (Or.inr (Or.inr (Or.inl ⟨z, a5 (Or.inr (Or.inr z))⟩)))
      · exact Or.inr (Or.inr (Or.inr (Or.inr (Or.inl z))))
      · exact Or.inr (Or.inr (Or.inr (Or.inr (Or.inr z))))
    rcases Nat.lt_or_ge c 3 with c3 | c3
    · refine rx_as hb c3 ec ?_
      refine ry_assign (fun z => absurd a1 z) (fun _ z => absurd ⟨a2, a3⟩ z) (fun _ _ _ z => absurd ⟨a4, a5⟩ z) (fun _ _ _ _ _ => ?_)
      exact ry_as hb c3 ec ⟨rfl, rr_mk _ h (rr_cntsU hC b (c + 1) (by omega)) (rr_slotsU hS _ _ _ _ a4 ho) hE hR⟩
    · have e3 : c = 3 := by omega
      subst e3
      refine rx_asF hb ec ?_
      refine ry_assign (fun z => absurd a1 z) (fun _ z => absurd ⟨a2, a3⟩ z) (fun _ _ _ z => absurd ⟨a4, a5⟩ z) (fun _ _ _ _ _ => ?_)
      exact ry_asF hb ec ⟨rfl, J⟩
theorem i_vc_output {k : Nat} {u : SX} {v : SY} (I : i_Rel k u v) (hk : k + 5 ≤ 2560) (v1 : Int32) : wpX_output (fun r => wpY_output (fun r' => r' = r ∧ i_Rel (k + 5) u v) v v1) u v1 := by
  have J := I
  obtain ⟨oc, la, A, C, O, V, W, G, T, P, L, N, R, e, t, p, l, Q, rfl, rfl, h, hC, hS, hE, hR⟩ := I
  by_cases a : v1 < 0
  · exact br_t a (br_t a ⟨rfl, J⟩)
  · obtain ⟨j, hj, rfl⟩ := nI_of a
    by_cases b : j < 16
    · have b1 : ¬ (16 : Int32) ≤ nI j := nI_ge (b := 16) b (by decide)
      have b2 : ¬ (15 : Int32) < nI j := nI_nlt (a := 15) (by omega) (by decide)
      by_cases c : j < oc
      · have c1 : nI j < nI oc := nI_lt c (by omega)
        have e1 : nI oc - 1 - nI j = nI (oc - 1 - j) := by
          rw [show (1 : Int32) = nI 1 from rfl, pk_sub (by omega), pk_sub (by omega)]
        have e2 : (nI oc - 1 - nI j) - (nI oc - 1 - nI j) / 16 * 16 = nI ((oc - 1 - j) % 16) := by
          rw [e1]; exact pk_rem (d := 16) (by omega) (by decide) (by decide)
        have e3 : (nI ((oc - 1 - j) % 16)).toNatClampNeg = (oc - 1 - j) % 16 := nI_clamp (by omega)
        have e4 : (nI j).toNatClampNeg = j := nI_clamp hj
        unfold wpX_output
        dsimp only
        rw [e2, e3]
        refine br_f a (br_f b1 (br_t c1 ⟨by decide, vp_in_nI (Nat.mod_lt _ (by decide)) (by decide), ?_⟩))
        refine br_f a (br_f b2 (br_t c1 ⟨vp_in_nI b (by decide), ?_, J⟩))
        rw [e4]
        exact (hR j b c).symm
      · have c1 : ¬ nI j < nI oc := nI_nlt (by omega) hj
        exact br_f a (br_f b1 (br_f c1 (br_f a (br_f b2 (br_f c1 ⟨rfl, J⟩)))))
    · have b1 : (16 : Int32) ≤ nI j := nI_le (a := 16) (by omega) hj
      have b2 : (15 : Int32) < nI j := nI_lt (a := 15) (by omega) hj
      exact br_f a (br_t b1 (br_f a (br_t b2 ⟨rfl, J⟩)))
