/-! image, restore -/
abbrev EQo (o : Nat) (σ τ : Mem) : Prop := EQ (o + 1) (o + 2) (o + 3) (o + 4) (o + 5) (o + 6) (o + 7) (o + 8) (o + 9) (o + 10) (o + 11) (o + 12) σ τ
def TCP (τ ρ : Mem) : Prop := (ρ 0 4 = τ 0 4 ∧ ρ 0 9 = τ 0 9 ∧ ρ 0 11 = τ 0 11 ∧ ρ 0 12 = τ 0 12) ∧ (∀ c, 0 ≤ c → c < 4 → ρ 1 c = τ 1 c ∧ ρ 2 c = τ 2 c ∧ ρ 3 c = τ 3 c) ∧ (∀ i, 0 ≤ i → i < 16 → ρ 4 i = τ 4 i) ∧ (∀ t, 0 ≤ t → t < 8 → ρ 5 t = τ 5 t ∧ ρ 6 t = τ 6 t ∧ ρ 7 t = τ 7 t ∧ ρ 8 t = τ 8 t) ∧ ∀ i, 0 ≤ i → i < 64 → ρ 9 i = τ 9 i
def SCP (o q : Nat) (σ σ' : Mem) : Prop := (σ' (q + 1) 3 = σ (o + 1) 3 ∧ σ' (q + 1) 4 = σ (o + 1) 4 ∧ σ' (q + 3) 0 = σ (o + 3) 0 ∧ σ' (q + 8) 0 = σ (o + 8) 0) ∧ (∀ c, 0 ≤ c → c < 4 → σ' (q + 5) c = σ (o + 5) c ∧ σ' (q + 6) c = σ (o + 6) c ∧ σ' (q + 7) c = σ (o + 7) c) ∧ (∀ i, 0 ≤ i → i < 16 → σ' (q + 4) i = σ (o + 4) i) ∧ (∀ t, 0 ≤ t → t < 8 → σ' (q + 9) t = σ (o + 9) t ∧ σ' (q + 10) t = σ (o + 10) t ∧ σ' (q + 11) t = σ (o + 11) t ∧ σ' (q + 12) t = σ (o + 12) t) ∧ ∀ i, 0 ≤ i → i < 64 → σ' (q + 2) i = σ (o + 2) i
theorem VAL.cp {τ ρ : Mem} (hV : VAL τ) (hT : TCP τ ρ) : VAL ρ := by
  obtain ⟨⟨a4, a9, a11, a12⟩, tc, t4, tt, t9⟩ := hT
  have n4 := hV.1
  have n9 := hV.2.1
  refine ⟨by omega, by omega, fun c c0 c1 => ?_, fun t t0 t1 => ?_, fun i i0 i1 => ?_, ?_, ?_⟩
  · rw [a4] at c1
    have hC := hV.2.2.1 c c0 c1
    have hc := tc c c0 (by omega)
    unfold CO at *
    rw [hc.1, hc.2.1, hc.2.2]
    have o4 : ∀ k, 0 ≤ k → k < τ 1 c → ρ 4 (4 * c + k) = τ 4 (4 * c + k) := fun k a b => t4 _ (by omega) (by omega)
    refine ⟨hC.1, hC.2.1, hC.2.2.1, fun k a b => by rw [o4 k a b]; exact hC.2.2.2.1 k a b, fun j k a b c' => by rw [o4 j a (by omega), o4 k (by omega) c']; exact hC.2.2.2.2 j k a b c'⟩
  · rw [a9] at t1
    have hq := hV.2.2.2.1 t t0 t1
    have ht := tt t t0 (by omega)
    unfold TH at *
    rw [ht.1, ht.2.1, ht.2.2.1, ht.2.2.2, a4]
    exact hq
  · rw [t9 i i0 i1]; exact hV.2.2.2.2.1 i i0 i1
  · rw [a11]; exact hV.2.2.2.2.2.1
  · rw [a12]; exact hV.2.2.2.2.2.2
theorem EQ.cp {o q : Nat} {σ σ' τ ρ : Mem} (hE : EQo o σ τ) (hV : VAL τ) (hS : SCP o q σ σ') (hT : TCP τ ρ) : EQo q σ' ρ := by
  obtain ⟨⟨a4, a9, a11, a12⟩, tc, t4, tt, t9⟩ := hT
  obtain ⟨⟨b1, b2, b3, b8⟩, sc, s4, st, s2⟩ := hS
  have n4 := hV.1
  have n9 := hV.2.1
  refine ⟨?_, ?_, ?_, ?_, fun c c0 c1 => ?_, fun t t0 t1 => ?_, fun i i0 i1 => ?_⟩
  · rw [b3, a4]; exact hE.1
  · rw [b8, a9]; exact hE.2.1
  · rw [b1, a11]; exact hE.2.2.1
  · rw [b2, a12]; exact hE.2.2.2.1
  · rw [a4] at c1
    have hq := hE.2.2.2.2.1 c c0 c1
    have hC := (hV.2.2.1 c c0 c1).1
    have hc := tc c c0 (by omega)
    have hs := sc c c0 (by omega)
    unfold EQC at *
    rw [hc.1, hc.2.1, hc.2.2, hs.1, hs.2.1, hs.2.2]
    refine ⟨hq.1, hq.2.1, hq.2.2.1, fun k a b => ?_⟩
    rw [s4 _ (by omega) (by omega), t4 _ (by omega) (by omega)]
    exact hq.2.2.2 k a b
  · rw [a9] at t1
    have hq := hE.2.2.2.2.2.1 t t0 t1
    have ht := tt t t0 (by omega)
    have hs := st t t0 (by omega)
    unfold EQT at *
    rw [ht.1, ht.2.1, ht.2.2.1, ht.2.2.2, hs.1, hs.2.1, hs.2.2.1, hs.2.2.2]
    exact hq
  · rw [s2 i i0 i1, t9 i i0 i1]; exact hE.2.2.2.2.2.2 i i0 i1
theorem mself {σ : Mem} {k : Nat} {i : Int} : mupd σ k i (σ k i) = σ := mupd_self rfl
/-- where the reference's carried value k lies -/
def cp (k : Int) : Nat := if k < 12 then 1 + (k / 4).toNat else if k < 28 then 4 else if k < 60 then 5 + ((k - 28) / 8).toNat else if k < 124 then 9 else 0
def ci (k : Int) : Int := if k < 12 then k % 4 else if k < 28 then k - 12 else if k < 60 then (k - 28) % 8 else if k < 124 then k - 60 else if k = 124 then 4 else if k = 125 then 9 else if k = 126 then 11 else 12
theorem cp_le {k : Int} (h : 0 ≤ k ∧ k < 128) : cp k ≤ 9 := by
  unfold cp
  repeat' split
  all_goals omega
theorem cp_inj {j k : Int} (hj : 0 ≤ j ∧ j < 128) (hk : 0 ≤ k ∧ k < 128) (h : cp j = cp k) (h2 : ci j = ci k) : j = k := by
  unfold cp at h
  unfold ci at h2
  by_cases a1 : j < 12 <;> by_cases b1 : k < 12 <;> by_cases a2 : j < 28 <;> by_cases b2 : k < 28 <;> by_cases a3 : j < 60 <;> by_cases b3 : k < 60 <;> by_cases a4 : j < 124 <;> by_cases b4 : k < 124 <;> simp only [a1, a2, a3, a4, b1, b2, b3, b4, if_true, if_false] at h h2 <;> first | omega | (repeat' split at h2; all_goals omega) | (split at h2 <;> split at h2 <;> omega) | skip
theorem c_get {k x2 : Int} {τ : Mem} {Q : Int → Mem → Prop} (h : 0 ≤ k ∧ k < 128) (hQ : Q (τ (cp k) (ci k)) τ) : HT GM M_X9_carried [mr 0, mi k, mi x2, mi 0] τ Q := by
  apply e_X9_carried_0
  unfold cp ci at hQ
  refine ⟨fun h12 => ⟨fun h28 => ⟨fun h60 => ⟨fun h124 => br0 ?_, fun z => br0 ?_⟩, fun z => br0 ?_⟩, fun z => br0 ?_⟩, fun z => br0 ?_⟩
  · rw [if_neg (by omega), if_neg (by omega), if_neg (by omega), if_neg (by omega), if_neg (by omega), if_neg (by omega), if_neg (by omega), if_neg (by omega)] at hQ
    apply b_X9_carried_0_427; apply b_X9_carried_0_431; refine br0 ?_; rw [mself]
    apply b_X9_carried_0_449; apply b_X9_carried_0_453; refine br0 ?_; rw [mself]
    apply b_X9_carried_0_471; apply b_X9_carried_0_475; refine br0 ?_; rw [mself]
    apply b_X9_carried_0_493; apply b_X9_carried_0_497; rw [mself]
    by_cases a : k = 124
    · rw [if_pos a] at hQ; exact nf a hQ
    · rw [if_neg a] at hQ; refine nt a ?_
      by_cases b : k = 125
      · rw [if_pos b] at hQ; exact nf b hQ
      · rw [if_neg b] at hQ; refine nt b ?_
        by_cases c : k = 126
        · rw [if_pos c] at hQ; exact nf c hQ
        · rw [if_neg c] at hQ; exact nt c hQ
  · rw [if_neg (by omega), if_neg (by omega), if_neg (by omega), if_pos (by omega), if_neg (by omega), if_neg (by omega), if_neg (by omega), if_pos (by omega)] at hQ
    rw [jsub_eq (by omega) (by omega)]
    refine ⟨by omega, ?_⟩
    apply b_X9_carried_0_401
    rw [jsub_eq (by omega) (by omega), mself]
    exact ⟨by omega, by omega, hQ⟩
  · rw [if_neg (by omega), if_neg (by omega), if_pos (by omega), if_neg (by omega), if_neg (by omega), if_pos (by omega)] at hQ
    rw [jsub_eq (by omega) (by omega), jrem_eq (by omega) (by omega) (by omega) (by omega), jdiv_eq (by omega) (by omega) (by omega) (by omega)]
    have hi : 0 ≤ (k - 28) % 8 ∧ (k - 28) % 8 < 8 := by omega
    apply b_X9_carried_0_223; refine ⟨hi, ?_⟩; apply b_X9_carried_0_230; refine ⟨hi, br0 ?_⟩; rw [mself]
    apply b_X9_carried_0_251; refine ⟨hi, ?_⟩; apply b_X9_carried_0_258; refine ⟨hi, br0 ?_⟩; rw [mself]
    apply b_X9_carried_0_279; refine ⟨hi, ?_⟩; apply b_X9_carried_0_286; refine ⟨hi, br0 ?_⟩; rw [mself]
    apply b_X9_carried_0_307; refine ⟨hi, ?_⟩; apply b_X9_carried_0_314; refine ⟨hi, ?_⟩; rw [mself]
    rcases (by omega : (k - 28) / 8 = 0 ∨ (k - 28) / 8 = 1 ∨ (k - 28) / 8 = 2 ∨ (k - 28) / 8 = 3) with e | e | e | e <;> rw [e] at hQ ⊢
    · exact ⟨fun z => absurd rfl z, fun _ => ⟨hi, hQ⟩⟩
    · exact ⟨fun _ => ⟨fun z => absurd rfl z, fun _ => ⟨hi, hQ⟩⟩, fun z => absurd z (by decide)⟩
    · exact ⟨fun _ => ⟨fun _ => ⟨fun z => absurd rfl z, fun _ => ⟨hi, hQ⟩⟩, fun z => absurd z (by decide)⟩, fun z => absurd z (by decide)⟩
    · exact ⟨fun _ => ⟨fun _ => ⟨fun _ => ⟨hi, hQ⟩, fun z => absurd z (by decide)⟩, fun z => absurd z (by decide)⟩, fun z => absurd z (by decide)⟩
  · rw [if_neg (by omega), if_pos (by omega), if_neg (by omega), if_pos (by omega)] at hQ
    rw [jsub_eq (by omega) (by omega)]
    refine ⟨by omega, ?_⟩
    apply b_X9_carried_0_169
    rw [jsub_eq (by omega) (by omega), mself]
    exact ⟨by omega, by omega, hQ⟩
  · rw [if_pos (by omega), if_pos (by omega)] at hQ
    rw [jrem_eq (by omega) (by omega) (by omega) (by omega), jdiv_eq (by omega) (by omega) (by omega) (by omega)]
    have hi : 0 ≤ k % 4 ∧ k % 4 < 4 := by omega
    apply b_X9_carried_0_35; refine ⟨hi, ?_⟩; apply b_X9_carried_0_42; refine ⟨hi, br0 ?_⟩; rw [mself]
    apply b_X9_carried_0_63; refine ⟨hi, ?_⟩; apply b_X9_carried_0_70; refine ⟨hi, br0 ?_⟩; rw [mself]
    apply b_X9_carried_0_91; refine ⟨hi, ?_⟩; apply b_X9_carried_0_98; refine ⟨hi, ?_⟩; rw [mself]
    rcases (by omega : k / 4 = 0 ∨ k / 4 = 1 ∨ k / 4 = 2) with e | e | e <;> rw [e] at hQ ⊢
    · exact ⟨fun z => absurd rfl z, fun _ => ⟨hi, hQ⟩⟩
    · exact ⟨fun _ => ⟨fun z => absurd rfl z, fun _ => ⟨hi, hQ⟩⟩, fun z => absurd z (by decide)⟩
    · exact ⟨fun _ => ⟨fun _ => ⟨hi, hQ⟩, fun z => absurd z (by decide)⟩, fun z => absurd z (by decide)⟩
theorem c_set {k v : Int} {τ : Mem} {Q : Int → Mem → Prop} (h : 0 ≤ k ∧ k < 128) (hQ : ∀ r, Q r (mupd τ (cp k) (ci k) v)) : HT GM M_X9_carried [mr 0, mi k, mi v, mi 1] τ Q := by
  apply e_X9_carried_0
  unfold cp ci at hQ
  refine ⟨fun h12 => ⟨fun h28 => ⟨fun h60 => ⟨fun h124 => br1 ?_, fun z => br1 ?_⟩, fun z => br1 ?_⟩, fun z => br1 ?_⟩, fun z => br1 ?_⟩
  · rw [if_neg (by omega), if_neg (by omega), if_neg (by omega), if_neg (by omega), if_neg (by omega), if_neg (by omega), if_neg (by omega), if_neg (by omega)] at hQ
    by_cases a : k = 124
    · rw [if_pos a] at hQ
      refine nf a ?_
      apply b_X9_carried_0_431; refine br1 (nt (by omega) ?_)
      apply b_X9_carried_0_449; apply b_X9_carried_0_453; refine br1 (nt (by omega) ?_); rw [mself]
      apply b_X9_carried_0_471; apply b_X9_carried_0_475; refine br1 (nt (by omega) ?_); rw [mself]
      apply b_X9_carried_0_493; apply b_X9_carried_0_497; rw [mself]
      exact nf a (hQ _)
    · rw [if_neg a] at hQ
      refine nt a ?_
      apply b_X9_carried_0_427; apply b_X9_carried_0_431; rw [mself]
      by_cases b : k = 125
      · rw [if_pos b] at hQ
        refine br1 (nf b ?_)
        apply b_X9_carried_0_453; refine br1 (nt (by omega) ?_)
        apply b_X9_carried_0_471; apply b_X9_carried_0_475; refine br1 (nt (by omega) ?_); rw [mself]
        apply b_X9_carried_0_493; apply b_X9_carried_0_497; rw [mself]
        exact nt a (nf b (hQ _))
      · rw [if_neg b] at hQ
        refine br1 (nt b ?_)
        apply b_X9_carried_0_449; apply b_X9_carried_0_453; rw [mself]
        by_cases c : k = 126
        · rw [if_pos c] at hQ
          refine br1 (nf c ?_)
          apply b_X9_carried_0_475; refine br1 (nt (by omega) ?_)
          apply b_X9_carried_0_493; apply b_X9_carried_0_497; rw [mself]
          exact nt a (nt b (nf c (hQ _)))
        · rw [if_neg c] at hQ
          refine br1 (nt c ?_)
          apply b_X9_carried_0_471; apply b_X9_carried_0_475; rw [mself]
          refine br1 (nf (by omega) ?_)
          apply b_X9_carried_0_497
          exact nt a (nt b (nt c (hQ _)))
  · rw [if_neg (by omega), if_neg (by omega), if_neg (by omega), if_pos (by omega), if_neg (by omega), if_neg (by omega), if_neg (by omega), if_pos (by omega)] at hQ
    rw [jsub_eq (by omega) (by omega)]
    apply b_X9_carried_0_401
    rw [jsub_eq (by omega) (by omega)]
    exact ⟨by omega, by omega, hQ _⟩
  · rw [if_neg (by omega), if_neg (by omega), if_pos (by omega), if_neg (by omega), if_neg (by omega), if_pos (by omega)] at hQ
    rw [jsub_eq (by omega) (by omega), jrem_eq (by omega) (by omega) (by omega) (by omega), jdiv_eq (by omega) (by omega) (by omega) (by omega)]
    have hi : 0 ≤ (k - 28) % 8 ∧ (k - 28) % 8 < 8 := by omega
    generalize hi2 : (k - 28) % 8 = i at hi hQ ⊢
    rcases (by omega : (k - 28) / 8 = 0 ∨ (k - 28) / 8 = 1 ∨ (k - 28) / 8 = 2 ∨ (k - 28) / 8 = 3) with e | e | e | e <;> rw [e] at hQ ⊢
    · refine nf rfl ?_
      apply b_X9_carried_0_230; refine ⟨hi, br1 (nt (by decide) ?_)⟩
      apply b_X9_carried_0_251; refine ⟨hi, ?_⟩; apply b_X9_carried_0_258; refine ⟨hi, br1 (nt (by decide) ?_)⟩; rw [mself]
      apply b_X9_carried_0_279; refine ⟨hi, ?_⟩; apply b_X9_carried_0_286; refine ⟨hi, br1 (nt (by decide) ?_)⟩; rw [mself]
      apply b_X9_carried_0_307; refine ⟨hi, ?_⟩; apply b_X9_carried_0_314; refine ⟨hi, ?_⟩; rw [mself]
      exact nf rfl ⟨hi, hQ _⟩
    · refine nt (by decide) ?_
      apply b_X9_carried_0_223; refine ⟨hi, ?_⟩; apply b_X9_carried_0_230; refine ⟨hi, br1 (nf rfl ?_)⟩; rw [mself]
      apply b_X9_carried_0_258; refine ⟨hi, br1 (nt (by decide) ?_)⟩
      apply b_X9_carried_0_279; refine ⟨hi, ?_⟩; apply b_X9_carried_0_286; refine ⟨hi, br1 (nt (by decide) ?_)⟩; rw [mself]
      apply b_X9_carried_0_307; refine ⟨hi, ?_⟩; apply b_X9_carried_0_314; refine ⟨hi, ?_⟩; rw [mself]
      exact nt (by decide) (nf rfl ⟨hi, hQ _⟩)
    · refine nt (by decide) ?_
      apply b_X9_carried_0_223; refine ⟨hi, ?_⟩; apply b_X9_carried_0_230; refine ⟨hi, br1 (nt (by decide) ?_)⟩; rw [mself]
      apply b_X9_carried_0_251; refine ⟨hi, ?_⟩; apply b_X9_carried_0_258; refine ⟨hi, br1 (nf rfl ?_)⟩; rw [mself]
      apply b_X9_carried_0_286; refine ⟨hi, br1 (nt (by decide) ?_)⟩
      apply b_X9_carried_0_307; refine ⟨hi, ?_⟩; apply b_X9_carried_0_314; refine ⟨hi, ?_⟩; rw [mself]
      exact nt (by decide) (nt (by decide) (nf rfl ⟨hi, hQ _⟩))
    · refine nt (by decide) ?_
      apply b_X9_carried_0_223; refine ⟨hi, ?_⟩; apply b_X9_carried_0_230; refine ⟨hi, br1 (nt (by decide) ?_)⟩; rw [mself]
      apply b_X9_carried_0_251; refine ⟨hi, ?_⟩; apply b_X9_carried_0_258; refine ⟨hi, br1 (nt (by decide) ?_)⟩; rw [mself]
      apply b_X9_carried_0_279; refine ⟨hi, ?_⟩; apply b_X9_carried_0_286; refine ⟨hi, br1 (nf rfl ?_)⟩; rw [mself]
      apply b_X9_carried_0_314; refine ⟨hi, ?_⟩
      exact nt (by decide) (nt (by decide) (nt (by decide) ⟨hi, hQ _⟩))
  · rw [if_neg (by omega), if_pos (by omega), if_neg (by omega), if_pos (by omega)] at hQ
    rw [jsub_eq (by omega) (by omega)]
    apply b_X9_carried_0_169
    rw [jsub_eq (by omega) (by omega)]
    exact ⟨by omega, by omega, hQ _⟩
  · rw [if_pos (by omega), if_pos (by omega)] at hQ
    rw [jrem_eq (by omega) (by omega) (by omega) (by omega), jdiv_eq (by omega) (by omega) (by omega) (by omega)]
    have hi : 0 ≤ k % 4 ∧ k % 4 < 4 := by omega
    generalize hi2 : k % 4 = i at hi hQ ⊢
    rcases (by omega : k / 4 = 0 ∨ k / 4 = 1 ∨ k / 4 = 2) with e | e | e <;> rw [e] at hQ ⊢
    · refine nf rfl ?_
      apply b_X9_carried_0_42; refine ⟨hi, br1 (nt (by decide) ?_)⟩
      apply b_X9_carried_0_63; refine ⟨hi, ?_⟩; apply b_X9_carried_0_70; refine ⟨hi, br1 (nt (by decide) ?_)⟩; rw [mself]
      apply b_X9_carried_0_91; refine ⟨hi, ?_⟩; apply b_X9_carried_0_98; refine ⟨hi, ?_⟩; rw [mself]
      exact nf rfl ⟨hi, hQ _⟩
    · refine nt (by decide) ?_
      apply b_X9_carried_0_35; refine ⟨hi, ?_⟩; apply b_X9_carried_0_42; refine ⟨hi, br1 (nf rfl ?_)⟩; rw [mself]
      apply b_X9_carried_0_70; refine ⟨hi, br1 (nt (by decide) ?_)⟩
      apply b_X9_carried_0_91; refine ⟨hi, ?_⟩; apply b_X9_carried_0_98; refine ⟨hi, ?_⟩; rw [mself]
      exact nt (by decide) (nf rfl ⟨hi, hQ _⟩)
    · refine nt (by decide) ?_
      apply b_X9_carried_0_35; refine ⟨hi, ?_⟩; apply b_X9_carried_0_42; refine ⟨hi, br1 (nt (by decide) ?_)⟩; rw [mself]
      apply b_X9_carried_0_63; refine ⟨hi, ?_⟩; apply b_X9_carried_0_70; refine ⟨hi, br1 (nf rfl ?_)⟩; rw [mself]
      apply b_X9_carried_0_98; refine ⟨hi, ?_⟩
      exact nt (by decide) (nt (by decide) ⟨hi, hQ _⟩)
theorem l_imageM {τ0 : Mem} {Q : Int → Mem → Prop} (hQ : ∀ τ', (∀ q, q ≠ 0 → q ≠ 17 → τ' q = τ0 q) → (∀ j, j ≠ 26 → τ' 0 j = τ0 0 j) → τ' 0 26 = 1 → (∀ j, 0 ≤ j → j < 128 → τ' 17 j = τ0 (cp j) (ci j)) → Q 1 τ') : ∀ (m k : Nat) (τ : Mem), k + m = 128 → (∀ q, q ≠ 17 → τ q = τ0 q) → (∀ j, 0 ≤ j → j < (k : Int) → τ 17 j = τ0 (cp j) (ci j)) → WP GM M_X9_image 2 [some (mr 0), some (mi (k : Int))] [] τ Q
  | 0, k, τ, hk, f, a => by
    obtain rfl : k = 128 := by omega
    refine b_X9_image_0_2 _ ⟨fun _ => ?_, fun z => absurd (by omega) z⟩
    exact hQ _ (fun q q0 q1 => by rw [mupd_ne _ q0, f q q1]) (fun j hj => by rw [mupd_ri hj, f 0 (by decide)]) (by rw [mupd_at]) (fun j j0 j1 => by rw [mupd_rp (by decide)]; exact a j j0 j1)
  | m + 1, k, τ, hk, f, a => by
    refine b_X9_image_0_2 _ ⟨fun z => absurd z (by omega), fun _ => c_get (by omega) ⟨by omega, ?_⟩⟩
    have hc := cp_le (k := (k : Int)) (by omega)
    have ih := l_imageM hQ m (k + 1) (mupd τ 17 k (τ (cp k) (ci k))) (by omega) (fun q hq => by rw [mupd_ne _ hq, f q hq]) (fun j j0 j1 => ?_)
    · rw [jadd_eq (by omega) (by omega)]
      exact ih
    · rw [mupd_ap]
      by_cases e : j = k
      · rw [if_pos e, e, f _ (by omega)]
      · rw [if_neg e]; exact a j j0 (by omega)
theorem l_restM {τ0 : Mem} {Q : Int → Mem → Prop} (hQ : ∀ τ', (∀ q, 10 ≤ q → τ' q = τ0 q) → (∀ j, j ≠ 4 → j ≠ 9 → j ≠ 11 → j ≠ 12 → τ' 0 j = τ0 0 j) → (∀ j, 0 ≤ j → j < 128 → τ' (cp j) (ci j) = τ0 17 j) → Q 1 τ') : ∀ (m k : Nat) (τ : Mem), k + m = 128 → (∀ q, 10 ≤ q → τ q = τ0 q) → (∀ j, j ≠ 4 → j ≠ 9 → j ≠ 11 → j ≠ 12 → τ 0 j = τ0 0 j) → (∀ j, 0 ≤ j → j < (k : Int) → τ (cp j) (ci j) = τ0 17 j) → WP GM M_X9_restore 12 [some (mr 0), some (mi (k : Int))] [] τ Q
  | 0, k, τ, hk, f, f0, a => by
    obtain rfl : k = 128 := by omega
    exact b_X9_restore_0_12 _ ⟨fun _ => hQ _ f f0 a, fun z => absurd (by omega) z⟩
  | m + 1, k, τ, hk, f, f0, a => by
    refine b_X9_restore_0_12 _ ⟨fun z => absurd z (by omega), fun _ => ⟨by omega, c_set (by omega) (fun r => ?_)⟩⟩
    have hc := cp_le (k := (k : Int)) (by omega)
    have ih := l_restM hQ m (k + 1) (mupd τ (cp k) (ci k) (τ 17 k)) (by omega) (fun q hq => by rw [mupd_ne _ (by omega), f q hq]) (fun j a b c d => ?_) (fun j j0 j1 => ?_)
    · rw [jadd_eq (by omega) (by omega)]
      exact ih
    · by_cases e : cp (k : Int) = 0
      · rw [e, mupd_ri, f0 j a b c d]
        intro z
        unfold ci at z
        unfold cp at e
        by_cases q1 : (k : Int) < 12
        · rw [if_pos q1] at e; omega
        · rw [if_neg q1] at e z
          by_cases q2 : (k : Int) < 28
          · rw [if_pos q2] at e; omega
          · rw [if_neg q2] at e z
            by_cases q3 : (k : Int) < 60
            · rw [if_pos q3] at e; omega
            · rw [if_neg q3] at e z
              by_cases q4 : (k : Int) < 124
              · rw [if_pos q4] at e; omega
              · rw [if_neg q4] at z
                repeat' split at z
                all_goals omega
      · rw [mupd_rp (by omega), f0 j a b c d]
    · by_cases e : j = k
      · rw [e, mupd_at, f 17 (by decide)]
      · by_cases e2 : cp j = cp k
        · rw [e2, mupd_ri (fun z => e (cp_inj (by omega) (by omega) e2 z)), ← e2]
          exact a j j0 (by omega)
        · rw [mupd_rp e2]
          exact a j j0 (by omega)
