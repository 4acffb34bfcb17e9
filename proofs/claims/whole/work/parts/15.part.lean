/-! ===== part ===== -/
def okR (x1 x2 x3 : Int32) : Prop := (∃ a : Nat, a < 8 ∧ x1 = nI a) ∧ ((x2 = -1 ∧ x3 = -1) ∨ ∃ b : Nat, b < 8 ∧ x2 = nI b ∧ x1 ≠ x2 ∧ (x3 = -1 ∨ ∃ c : Nat, c < 8 ∧ x3 = nI c ∧ x3 ≠ x1 ∧ x3 ≠ x2))
theorem nI_nm1 {b : Nat} (hb : b < 8) : nI b ≠ -1 := by
  intro h
  have := congrArg Int32.toInt h
  rw [nI_toInt (by omega)] at this
  have e : ((-1 : Int32)).toInt = -1 := by decide
  rw [e] at this
  omega
theorem row_all {x1 x2 x3 : Int32} {post : Int32 → Prop} (h1 : okR x1 x2 x3 → post 1) (h0 : ¬ okR x1 x2 x3 → post 0) : wp_X8_isRowOfChoices x1 x2 x3 post := by
  rcases in_or x1 8 (by decide) with ⟨a, ha, e1⟩ | n1
  · rw [e1]
    refine w_in ha (by decide) rfl (br1' ⟨fun hb => ?_, fun hb => ⟨fun hc => h0 ?_, fun hc => h1 ⟨⟨a, ha, e1⟩, Or.inl ⟨hb, hc⟩⟩⟩⟩)
    · rcases in_or x2 8 (by decide) with ⟨b, hb8, e2⟩ | n2
      · rw [e2]
        refine w_in hb8 (by decide) rfl (br1 ⟨fun hab => ⟨fun hc => h1 ⟨⟨a, ha, e1⟩, Or.inr ⟨b, hb8, e2, by rw [e1, e2]; exact hab, Or.inl hc⟩⟩, fun hc => ?_⟩, fun hab => h0 ?_⟩)
        · rcases in_or x3 8 (by decide) with ⟨c, hc8, e3⟩ | n3
          · rw [e3]
            refine w_in hc8 (by decide) rfl (br1 ⟨fun hca => h0 ?_, fun hca => ⟨fun hcb => h0 ?_, fun hcb => h1 ⟨⟨a, ha, e1⟩, Or.inr ⟨b, hb8, e2, by rw [e1, e2]; exact hab, Or.inr ⟨c, hc8, e3, by rw [e3, e1]; exact hca, by rw [e3, e2]; exact hcb⟩⟩⟩⟩⟩)
            · rintro ⟨_, ⟨h, -⟩ | ⟨_, _, _, _, h | ⟨_, _, _, h, _⟩⟩⟩
              · exact hb h
              · exact hc h
              · exact h (by rw [e3, e1]; exact hca)
            · rintro ⟨_, ⟨h, -⟩ | ⟨_, _, _, _, h | ⟨_, _, _, _, h⟩⟩⟩
              · exact hb h
              · exact hc h
              · exact h (by rw [e3, e2]; exact hcb)
          · refine w_out n3 (by decide) rfl (br0 (h0 ?_))
            rintro ⟨_, ⟨h, -⟩ | ⟨_, _, _, _, h | ⟨c, hc8, h, _⟩⟩⟩
            · exact hb h
            · exact hc h
            · exact n3 c hc8 h
        · rintro ⟨_, ⟨h, -⟩ | ⟨_, _, _, h, _⟩⟩
          · exact hb h
          · exact h (by rw [e1, e2]; exact hab)
      · refine w_out n2 (by decide) rfl (br0 (h0 ?_))
        rintro ⟨_, ⟨h, -⟩ | ⟨b, hb8, h, _⟩⟩
        · exact hb h
        · exact n2 b hb8 h
    · rintro ⟨_, ⟨-, h⟩ | ⟨b, hb8, h, _⟩⟩
      · exact hc h
      · exact nI_nm1 hb8 (by rw [← h]; exact hb)
  · refine w_out n1 (by decide) rfl (br0' (h0 ?_))
    rintro ⟨⟨a, ha, h⟩, _⟩
    exact n1 a ha h
theorem mp_all {x1 x2 x3 : Int32} {v : WU} {P : Nat} {post : Int32 → WU → Prop} (hP : P ≤ 24) (e : v.1 21 0 = nI P) (h1 : okR x1 x2 x3 → P < 24 → wp_X9_part_J69 x1 x2 x3 v post) (h0 : (okR x1 x2 x3 → P = 24) → post (-1) v) : wp_X9_part x1 x2 x3 v post := by
  unfold wp_X9_part
  rw [e]
  refine ⟨fun hc => h0 fun _ => (nI_eq (by omega) (by decide)).mp hc, fun hc => ?_⟩
  have hlt : P < 24 := by
    rcases Nat.lt_or_ge P 24 with z | z
    · exact z
    · exact absurd (by rw [show P = 24 by omega]; rfl) hc
  rcases in_or x1 8 (by decide) with ⟨a, ha, e1⟩ | n1
  · have L45 : (okR x1 x2 x3 ↔ (x3 = -1 ∨ ∃ c : Nat, c < 8 ∧ x3 = nI c ∧ x3 ≠ x1 ∧ x3 ≠ x2)) → wp_X9_part_J45 x1 x2 x3 v post := by
      intro hiff
      refine ⟨fun hc => h1 (hiff.mpr (Or.inl hc)) hlt, fun hc => ?_⟩
      rcases in_or x3 8 (by decide) with ⟨c, hc8, e3⟩ | n3
      · rw [e3]
        refine lic_in hc8 (br1 ⟨fun hca => h0 fun h => ?_, fun hca => ⟨fun hcb => ?_, fun hcb => h0 fun h => ?_⟩⟩)
        · rcases hiff.mp h with q | ⟨_, _, _, q, _⟩
          · exact absurd q hc
          · exact absurd (by rw [e3]; exact hca) q
        · rw [← e3]
          exact h1 (hiff.mpr (Or.inr ⟨c, hc8, e3, by rw [e3]; exact hca, by rw [e3]; exact hcb⟩)) hlt
        · rcases hiff.mp h with q | ⟨_, _, _, _, q⟩
          · exact absurd q hc
          · exact absurd (by rw [e3]; exact hcb) q
      · refine lic_out n3 (br0 (h0 fun h => ?_))
        rcases hiff.mp h with q | ⟨c, hc8, q, _⟩
        · exact absurd q hc
        · exact absurd q (n3 c hc8)
    have L28 : (x2 = -1 → x3 = -1) → wp_X9_part_J28 x1 x2 x3 v post := by
      intro h23
      refine ⟨fun hb => L45 ⟨fun _ => Or.inl (h23 hb), fun _ => ⟨⟨a, ha, e1⟩, Or.inl ⟨hb, h23 hb⟩⟩⟩, fun hb => ?_⟩
      rcases in_or x2 8 (by decide) with ⟨b, hb8, e2⟩ | n2
      · rw [e2]
        refine lic_in hb8 (br1 ⟨fun hba => h0 fun h => ?_, fun hba => ?_⟩)
        · rcases h with ⟨_, ⟨q, -⟩ | ⟨_, _, _, q, _⟩⟩
          · exact absurd q hb
          · exact absurd (by rw [e2]; exact hba.symm) q
        · rw [← e2]
          refine L45 ⟨fun h => ?_, fun h => ⟨⟨a, ha, e1⟩, Or.inr ⟨b, hb8, e2, fun q => hba (by rw [← e2]; exact q.symm), h⟩⟩⟩
          rcases h with ⟨_, ⟨q, -⟩ | ⟨_, _, _, _, q⟩⟩
          · exact absurd q hb
          · exact q
      · refine lic_out n2 (br0 (h0 fun h => ?_))
        rcases h with ⟨_, ⟨q, -⟩ | ⟨b, hb8, q, _⟩⟩
        · exact absurd q hb
        · exact absurd q (n2 b hb8)
    have h28 := L28
    rw [show wp_X9_isLicence x1 = wp_X9_isLicence (nI a) by rw [e1]]
    refine lic_in ha (br1 ⟨fun hb => L28 fun q => absurd q hb, fun hb => ⟨fun hc => L28 fun _ => hc, fun hc => h0 fun h => ?_⟩⟩)
    rcases h with ⟨_, ⟨-, q⟩ | ⟨b, hb8, q, _⟩⟩
    · exact absurd q hc
    · exact absurd (by rw [← q]; exact hb) (nI_nm1 hb8)
  · refine lic_out n1 (br0 (h0 fun h => ?_))
    obtain ⟨⟨a, ha, q⟩, _⟩ := h
    exact absurd q (n1 a ha)
