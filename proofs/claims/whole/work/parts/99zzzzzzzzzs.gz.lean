/-! ===== what is known of what was judged (pure) ===== -/
section Gd
variable {rm nd n : Nat} {B : Nat → Int} {a a' : AS}
theorem arn_fin2 : ∀ (N : Nat) (a a' : AS), arn rm nd N a = .inr a' → fin a' = true
  | 0, a, a', h => by cases h
  | N + 1, a, a', h => by
    unfold arn at h
    split at h
    · rename_i hf
      cases h
      exact hf
    · split at h
      · cases h
      · exact arn_fin2 N _ _ h
theorem jdg_fin2 (h : jdg rm nd B n = .inr a') : fin a' = true := by
  unfold jdg at h
  split at h
  · cases h
  · split at h
    · cases h
    · unfold rdA at h
      split at h
      · split at h
        · cases h
        · split at h
          · exact arn_fin2 _ _ _ h
          · cases h
      · exact arn_fin2 _ _ _ h
theorem arn_GZ : ∀ (N : Nat) (a a' : AS) (bk : List Str), GZ rm nd a bk → arn rm nd N a = .inr a' → ∃ bk', GZ rm nd a' bk'
  | 0, a, a', bk, _, h => by cases h
  | N + 1, a, a', bk, hZ, h => by
    unfold arn at h
    split at h
    · cases h
      exact ⟨bk, hZ⟩
    · split at h
      · cases h
      · rename_i a2 hs
        exact arn_GZ N _ _ _ (hZ.stpE hs) h
theorem jdg_GZ (hn : n ≤ 65536) (h : jdg rm nd B n = .inr a') : ∃ bk, GZ rm nd a' bk := by
  unfold jdg at h
  split at h
  · cases h
  · rename_i w hw
    split at h
    · cases h
    · rename_i hl
      have hlen := ldT_len hw
      have hnl := nle_len w ([], false)
      rw [show (w.foldl nlc ([], false)).1 = nle w from rfl, List.length_nil] at hnl
      have hch : ∀ c ∈ nle w, isCh c = true := nle_ch w ([], false) (ldT_ch hw) (fun c hc => by cases hc)
      generalize nle w = l at *
      have hcl : cur (a0 l) = l := rfl
      unfold rdA at h
      rw [hcl] at h
      split at h
      · split at h
        · cases h
        · rename_i st en k hk
          split at h
          · obtain ⟨z1, z2, z3, -⟩ := hdk_le hk
            exact arn_GZ _ _ _ _ (GZ_hd (by omega) (by omega) hch z1 ⟨z2, z3⟩) h
          · cases h
      · exact arn_GZ _ _ _ _ (GZ_a0 (by omega) (by omega) hch) h
end Gd
section Ge
variable {rm nd n : Nat} {B : Nat → Int}
theorem DGd_of (hrm : rm ≤ 98304) (hn : n ≤ 65536) : DGd rm nd (dcJ rm nd B n) := by
  intro a ha
  unfold dcJ at ha
  split at ha
  · cases ha
  · rename_i a' hj
    cases ha
    obtain ⟨bk, hZ⟩ := jdg_GZ hn hj
    obtain ⟨z1, z2, z3, z4, z5, z6, z7, z8, -⟩ := hZ
    refine ⟨⟨z1, jdg_fin2 hj, z2, z3, z4, z5, z6⟩, jdg_GX hn hj, jdg_GY hn hj, jdg_GU hn hj, z8, ?_⟩
    have h1 := z7.2.2.1
    obtain ⟨⟨-, -, ⟨-, q2, -, -⟩, -⟩, -⟩ := z1
    split at h1 <;> omega
end Ge
