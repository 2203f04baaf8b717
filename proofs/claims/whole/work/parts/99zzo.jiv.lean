/-! ===== what holds of every text that is read to its end (pure) ===== -/
section Jinv
variable {rm nd n : Nat} {B : Nat → Int} {a' : AS}
theorem jdg_inv (P : AS → Prop) (hP : ∀ a a', GI rm nd a → P a → stp rm nd a = .inr a' → P a') (h0 : ∀ l st k, P (a0 l) ∧ P (adv (sN (a0 l) 5 st) k)) (hn : n ≤ 65536) (h : jdg rm nd B n = .inr a') : P a' := by
  unfold jdg at h
  split at h
  · cases h
  · rename_i w hw
    split at h
    · cases h
    · rename_i hl
      have hlen := ldT_len hw
      have hnl := nle_len w ([], false)
      rw [show (w.foldl nlc ([], false)).1 = nle w from rfl, List.length_nil] at hnl
      have hG : GI rm nd (a0 (nle w)) := GI_a0 (by omega) (by omega)
      generalize nle w = l at *
      have hcl : cur (a0 l) = l := rfl
      unfold rdA at h
      rw [hcl] at h
      split at h
      · split at h
        · cases h
        · rename_i st en k hk
          split at h
          · obtain ⟨z1, z2, z3, -⟩ := hdk_le hk
            have hGn : GI rm nd (sN (a0 l) 5 st) := hG.n5 z1
            obtain ⟨⟨-, -, ⟨-, r2, -, -⟩, -, ⟨b1, b2⟩, -⟩, -⟩ := id hGn
            have hsk := SK.lit (X := sN (a0 l) 5 st) (k := k) (l := l) (g := (0, 0)) (t := []) hGn rfl rfl ⟨z2, z3⟩ (Or.inl rfl) le_k ⟨Nat.le_refl _, r2⟩ le_kk le_kk le_kk le_k le_k ⟨Nat.le_refl _, b2⟩ (fun _ _ => rfl) rfl rfl rfl (Or.inl rfl)
            exact arn_inv P hP _ _ _ hsk.1 (h0 l st k).2 h
          · cases h
      · exact arn_inv P hP _ _ _ hG (h0 l 0 0).1 h
theorem jdg_GV (hn : n ≤ 65536) (h : jdg rm nd B n = .inr a') : GV a' :=
  jdg_inv GV (fun _ _ hG hV hs => GV.stpE hG hV hs) (fun l st k => ⟨GV_a0, (GV_a0 (l := l)).of_S0 (S0.advE (a := a0 l) (X := sN (a0 l) 5 st) ⟨rfl, rfl, rfl, rfl⟩)⟩) hn h
end Jinv
