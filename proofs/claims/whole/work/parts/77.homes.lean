/-! homes: a name finds a cell -/
section J1
variable {K : Int32 → mz_St → Prop} {Kv : mz_St → Prop} {σ u : mz_St}
theorem ge8 {k : Nat} (hk : k < 2 ^ 31) : (8 : Int32) ≤ nI k ↔ 8 ≤ k := by
  rw [show (8 : Int32) = nI 8 from rfl, nI_leI (by omega) hk]
theorem nlt0 {k : Nat} (hk : k < 2 ^ 31) : ¬ nI k < 0 := by
  rw [Int32.lt_iff_toInt_lt, nI_toInt hk, show (0 : Int32).toInt = 0 by decide]; omega
theorem ix8 {y : Nat} : (8 : Int32) + nI y = nI (8 + y) := by
  rw [show (8 : Int32) = nI 8 from rfl, nI_add]
theorem mm_putInSlot {x : Nat} (hx : x < 221) (h : Kv (mz_up (mz_up u 40 x (nI (8 + x))) 1010 0 1)) : mw_Homes_putInSlot Kv (nI x) u := by
  unfold mw_Homes_putInSlot
  rw [ix8, mz_wrn (by omega)]
  exact ⟨vp_in_nI hx (by decide), h⟩
/-- what a cell may be for a name -/
def cel (u : mz_St) (rg y : Nat) : Prop := u 40 y = -1 ∨ ∃ h, u 40 y = nI h ∧ (h < rg ∨ h = 8 + y)
theorem mm_findHolders {L : Int32} {rg : Nat} (hrg : rg ≤ 8) (hcur : ∀ t, t < 10 → u 42 t = -1 ∨ ∃ y, y < 221 ∧ u 42 t = nI y ∧ cel u rg y) (h : ∀ v, mf [43] u v → (∀ r, r < 8 → (v 43 r = -1 ∧ ∀ t y, t < 10 → bt L t = true → y < 221 → u 42 t = nI y → u 40 y ≠ nI r) ∨ ∃ t y, t < 10 ∧ bt L t = true ∧ y < 221 ∧ u 42 t = nI y ∧ u 40 y = nI r ∧ v 43 r = nI y) → Kv v) : mw_Homes_findHolders Kv L u := by
  unfold mw_Homes_findHolders
  refine lf1 (fun m x v => ∃ i, x = nI i ∧ i ≤ 10 ∧ m = 10 - i ∧ mf [43] u v ∧ ∀ r, r < 8 → (v 43 r = -1 ∧ ∀ t y, t < i → bt L t = true → y < 221 → u 42 t = nI y → u 40 y ≠ nI r) ∨ ∃ t y, t < 10 ∧ bt L t = true ∧ y < 221 ∧ u 42 t = nI y ∧ u 40 y = nI r ∧ v 43 r = nI y) ?_ 10 0 _ ⟨0, rfl, by omega, rfl, mf_fl (by decide), fun r hr => Or.inl ⟨fl_at hr, fun t y ht => absurd ht (by omega)⟩⟩
  rintro m P10 x v ⟨i, rfl, hi, rfl, hm, hv⟩ hrec
  unfold mw_Homes_findHolders_10
  rw [ge10 (by omega)]
  refine ⟨fun hle => ?_, fun hlt => ?_⟩
  · have ei : i = 10 := by omega
    subst ei
    exact h v hm hv
  · have hi2 : i < 10 := by omega
    have hin : vp_in (nI i) 10 := vp_in_nI hi2 (by decide)
    refine mm_isIn (by omega) (fun P68 hP68 => ?_)
    have nx : ∀ w, mf [43] u w → (∀ r, r < 8 → (w 43 r = -1 ∧ ∀ t y, t < i + 1 → bt L t = true → y < 221 → u 42 t = nI y → u 40 y ≠ nI r) ∨ ∃ t y, t < 10 ∧ bt L t = true ∧ y < 221 ∧ u 42 t = nI y ∧ u 40 y = nI r ∧ w 43 r = nI y) → P68 w := by
      intro w hmw hw
      apply hP68
      unfold mw_Homes_findHolders_68
      rw [nI_k1]
      exact hrec (10 - (i + 1)) _ w (by omega) ⟨i + 1, rfl, by omega, rfl, hmw, hw⟩
    have skip : (bt L i = true → ∀ y, y < 221 → u 42 i = nI y → ∀ r, r < 8 → u 40 y ≠ nI r) → P68 v := by
      intro hs
      refine nx v hm (fun r hr => ?_)
      rcases hv r hr with ⟨a1, a2⟩ | a
      · refine Or.inl ⟨a1, fun t y ht hb hy h42 => ?_⟩
        by_cases e : t = i
        · subst e; exact hs hb y hy h42 r hr
        · exact a2 t y (by omega) hb hy h42
      · exact Or.inr a
    refine bz_go (fun e => skip (fun z => by rw [e] at z; cases z)) (fun e => ⟨hin, ?_⟩)
    rw [mz_rdn (by omega), hm 42 (by decide), hm 40 (by decide) |> fun q => show mz_rd v 40 = mz_rd u 40 by unfold mz_rd; rw [q]]
    rcases hcur i hi2 with z | ⟨y, hy, e42, hc⟩
    · refine ⟨fun _ => skip (fun _ y hy h42 => ?_), fun q => absurd z q⟩
      rw [z] at h42
      exact absurd h42.symm (ne_m1 (by omega))
    · rw [e42, mz_rdn (by omega)]
      refine ⟨fun z => absurd z (ne_m1 (by omega)), fun _ => ⟨hin, vp_in_nI hy (by decide), ?_⟩⟩
      rcases hc with z | ⟨q, eq, hq⟩
      · rw [z]
        refine ⟨fun _ => skip (fun _ y' hy' h42 r hr => ?_), fun q => absurd (by decide) q⟩
        rw [e42, nI_eq (by omega) (by omega)] at h42
        subst h42
        rw [z]
        exact fun z2 => ne_m1 (by omega) z2.symm
      · rw [eq, ge8 (by omega)]
        refine ⟨fun z => absurd z (nlt0 (by omega)), fun _ => ⟨fun z => skip (fun _ y' hy' h42 r hr => ?_), fun z => ?_⟩⟩
        · rw [e42, nI_eq (by omega) (by omega)] at h42
          subst h42
          rw [eq]
          intro z2
          rw [nI_eq (by omega) (by omega)] at z2
          omega
        · rw [mz_wrn (by omega)]
          refine ⟨hin, vp_in_nI (by omega) (by decide), nx _ (mf_tr hm (mf_up (by decide))) (fun r hr => ?_)⟩
          by_cases er : r = q
          · subst er
            exact Or.inr ⟨i, y, hi2, e, hy, e42, eq, up_at⟩
          · rw [up_ot er]
            rcases hv r hr with ⟨a1, a2⟩ | a
            · refine Or.inl ⟨a1, fun t y' ht hb hy' h42 => ?_⟩
              by_cases et : t = i
              · subst et
                rw [e42, nI_eq (by omega) (by omega)] at h42
                subst h42
                rw [eq]
                intro z2
                rw [nI_eq (by omega) (by omega)] at z2
                exact er z2.symm
              · exact a2 t y' (by omega) hb hy' h42
            · exact Or.inr a
theorem mm_registerFor {x rg : Nat} (hx : x < 221) (hrg : rg ≤ 8) (h9 : u 1009 0 = nI rg) (h43 : ∀ r, r < 8 → u 43 r = -1 ∨ ∃ y, y < 221 ∧ u 43 r = nI y) (h : ∀ r : Int32, (r = -1 ∨ ∃ q, q < rg ∧ r = nI q) → K r u) : mw_Homes_registerFor K (nI x) u := by
  unfold mw_Homes_registerFor
  refine ⟨vp_in_nI hx (by decide), fun v1 => ?_⟩
  refine lf3 (fun m (a1 : Int32) (_ : Int64) (a3 : Int32) v => ∃ q, a3 = nI q ∧ q ≤ rg ∧ m = rg - q ∧ v = u ∧ (a1 = -1 ∨ ∃ q', q' < rg ∧ a1 = nI q')) ?_ rg (-1) v1 0 u ⟨0, rfl, by omega, rfl, rfl, Or.inl rfl⟩
  rintro m P12 a1 a2 a3 v ⟨q, rfl, hq, rfl, rfl, ha⟩ hrec
  unfold mw_Homes_registerFor_12
  rw [h9]
  refine pk_le rg q (fun hle => h _ ha) (fun hlt => ?_)
  have hin : vp_in (nI q) 8 := vp_in_nI (by omega) (by decide)
  rw [mz_rdn (by omega)]
  refine ⟨hin, fun hne => ?_, fun _ => h _ (Or.inr ⟨q, hlt, rfl⟩)⟩
  rcases h43 q (by omega) with z | ⟨y, hy, ey⟩
  · exact absurd z hne
  rw [ey]
  have vy : vp_in (nI y) 221 := vp_in_nI hy (by decide)
  refine ⟨hin, vy, fun v2 P68 hP68 => ⟨fun _ => ?_, fun _ => ⟨hin, vy, fun v3 => ?_⟩⟩⟩
  · apply hP68
    unfold mw_Homes_registerFor_68
    rw [nI_k1]
    exact hrec (rg - (q + 1)) _ _ _ v (by omega) ⟨q + 1, rfl, by omega, rfl, rfl, ha⟩
  · apply hP68
    unfold mw_Homes_registerFor_68
    rw [nI_k1]
    exact hrec (rg - (q + 1)) _ _ _ v (by omega) ⟨q + 1, rfl, by omega, rfl, rfl, Or.inr ⟨q, hlt, rfl⟩⟩
theorem mm_giveHome {x rg : Nat} {L : Int32} (hx : x < 221) (hrg : rg ≤ 8) (h9 : u 1009 0 = nI rg) (hx40 : u 40 x = -1)
    (hcur : ∀ t, t < 10 → u 42 t = -1 ∨ ∃ y, y < 221 ∧ u 42 t = nI y ∧ cel u rg y)
    (hdis : ∀ t1 t2 y1 y2, t1 < 10 → t2 < 10 → bt L t1 = true → bt L t2 = true → y1 < 221 → y2 < 221 → u 42 t1 = nI y1 → u 42 t2 = nI y2 → y1 ≠ y2 → u 40 y1 ≠ -1 → u 40 y2 ≠ -1 → u 40 y1 ≠ u 40 y2)
    (h : ∀ v, mf [40, 43, 1010] u v → (∀ y, y ≠ x → v 40 y = u 40 y ∨ (v 40 y = nI (8 + y) ∧ u 40 y ≠ -1 ∧ y < 221 ∧ v 1010 0 = 1)) → (∃ q, v 40 x = nI q ∧ (q < rg ∨ (q = 8 + x ∧ v 1010 0 = 1))) → (∀ t y, t < 10 → bt L t = true → y < 221 → u 42 t = nI y → y ≠ x → v 40 y ≠ v 40 x) → (v 1010 0 = u 1010 0 ∨ v 1010 0 = 1) → Kv v) : mw_Homes_giveHome Kv (nI x) L u := by
  unfold mw_Homes_giveHome
  refine mm_findHolders hrg hcur (fun w hmw hw => ?_)
  have w40 : w 40 = u 40 := hmw 40 (by decide)
  have w10 : w 1010 = u 1010 := hmw 1010 (by decide)
  refine mm_registerFor hx hrg (by rw [hmw 1009 (by decide)]; exact h9) (fun r hr => ?_) (fun r hr => ⟨fun hne => ?_, fun he => ?_⟩)
  · rcases hw r hr with ⟨a, -⟩ | ⟨t, y, -, -, hy, -, -, e⟩
    · exact Or.inl a
    · exact Or.inr ⟨y, hy, e⟩
  · rcases hr with z | ⟨q, hq, rfl⟩
    · exact absurd z hne
    have vq : vp_in (nI q) 8 := vp_in_nI (by omega) (by decide)
    refine ⟨vq, fun P42 hP42 => ?_⟩
    rw [mz_rdn (by omega)]
    have vx : vp_in (nI x) 221 := vp_in_nI hx (by decide)
    rcases hw q (by omega) with ⟨a1, a2⟩ | ⟨t0, y0, ht0, hb0, hy0, e42, e40, e43⟩
    · refine ⟨fun _ => ?_, fun z => absurd a1 z⟩
      apply hP42
      unfold mw_Homes_giveHome_42
      rw [mz_wrn (by omega)]
      refine ⟨vx, h _ (mf_tr (mf_mono hmw (by decide)) (mf_up (by decide))) (fun y hy => Or.inl (by rw [up_ot hy, w40])) ⟨q, up_at, Or.inl hq⟩ (fun t y ht hb hy h42 hyx => ?_) (Or.inl (by rw [up_row (by decide), w10]))⟩
      rw [up_at, up_ot hyx, w40]
      exact a2 t y ht hb hy h42
    · have hy0x : y0 ≠ x := fun z => by
        rw [z, hx40] at e40
        exact ne_m1 (by omega) e40.symm
      refine ⟨fun z => absurd (e43.symm.trans z) (ne_m1 (by omega)), fun _ => ⟨vq, ?_⟩⟩
      rw [e43]
      refine mm_putInSlot hy0 ?_
      apply hP42
      unfold mw_Homes_giveHome_42
      rw [mz_wrn (by omega)]
      generalize hgz : mz_up (mz_up (mz_up w 40 y0 (nI (8 + y0))) 1010 0 1) 40 x (nI q) = z
      have z10 : z 1010 0 = 1 := by rw [← hgz, up_row (by decide), up_at]
      have zx : z 40 x = nI q := by rw [← hgz, up_at]
      have zy0 : z 40 y0 = nI (8 + y0) := by rw [← hgz, up_ot hy0x, up_row (by decide), up_at]
      have zo : ∀ y, y ≠ x → y ≠ y0 → z 40 y = u 40 y := fun y h1 h2 => by rw [← hgz, up_ot h1, up_row (by decide), up_ot h2, w40]
      refine ⟨vx, h z ?_ (fun y hy => ?_) ⟨q, zx, Or.inl hq⟩ (fun t y ht hb hy h42 hyx => ?_) (Or.inr z10)⟩
      · rw [← hgz]
        exact mf_tr (mf_mono hmw (by decide)) (mf_tr (mf_tr (mf_up (by decide)) (mf_up (by decide))) (mf_up (by decide)))
      · by_cases e : y = y0
        · subst e
          exact Or.inr ⟨zy0, by rw [e40]; exact ne_m1 (by omega), hy0, z10⟩
        · exact Or.inl (zo y hy e)
      · rw [zx]
        by_cases e : y = y0
        · subst e
          rw [zy0]
          intro z2
          rw [nI_eq (by omega) (by omega)] at z2
          omega
        · rw [zo y hyx e]
          intro z2
          refine hdis t t0 y y0 ht ht0 hb hb0 hy hy0 h42 e42 e ?_ ?_ (z2.trans e40.symm)
          · rw [z2]; exact ne_m1 (by omega)
          · rw [e40]; exact ne_m1 (by omega)
  · refine mm_putInSlot hx (h _ (mf_tr (mf_mono hmw (by decide)) (mf_tr (mf_up (by decide)) (mf_up (by decide)))) (fun y hy => Or.inl (by rw [up_row (by decide), up_ot hy, w40])) ⟨8 + x, by rw [up_row (by decide), up_at], Or.inr ⟨rfl, up_at⟩⟩ (fun t y ht hb hy h42 hyx => ?_) (Or.inr up_at))
    rw [up_row (by decide), up_at, up_ot hyx, w40]
    rcases hcur t ht with z | ⟨y', hy', e', hc⟩
    · rw [z] at h42; exact absurd h42.symm (ne_m1 (by omega))
    · rw [h42, nI_eq (by omega) (by omega)] at e'
      subst e'
      rcases hc with z | ⟨q, eq, hq⟩
      · rw [z]; exact fun z2 => ne_m1 (by omega) z2.symm
      · rw [eq]
        intro z2
        rw [nI_eq (by omega) (by omega)] at z2
        omega
end J1
