/-! the start: 22.false -/
theorem evs1.hPc (D : va_G) (hD0 : ∀ (c : Nat) (q : vw_C), vwCl[c]? = some q → u_Kn about q.1 q.2.1 q.2.2 (D.1 c) (D.2 c)) : ev_Pc D G ad A [.ref 0] ev_w0 args0 about :=
  ⟨rfl, ⟨hP D, hD, ev_wf0, sz_eq⟩, ⟨hD0, arrK⟩, hAO, hNW, hZ, fun q hq => Or.inr (Or.inr (by rw [sz_eq] at hq; exact hq))⟩
theorem evs1.falls : RefutedClaimed_1_1 := by
  obtain ⟨D, hD0⟩ := exD
  obtain ⟨hl, hw, hadm, hleast, hcas, hclk, hf, -⟩ := atStart
  obtain ⟨n, o, h1, h2, h3, ⟨-, hsz⟩, -⟩ := ev_law launch0 D G ad A had p0 e0 hadm hcas hclk about ⟨0, 0⟩ args0 Lib.HandBits.below0 hf ((Spec.applies_iff_loose hf).mp applies0).1 (hPc D hD0) trivial
  refine ⟨launch0, p0, e0, about, ⟨0, 0⟩, args0, Lib.HandBits.below0, rfl, atStart, n, o, h1, h2, h3, fun hp => ?_⟩
  obtain ⟨-, -, -, hs⟩ := hp
  have hb : (stepsAlone p0.tables e0 n about).heap.size ≤ about.heap.size + 171340 := hs.2.2.1
  rw [hsz] at hb
  omega
theorem evs1.notClaimed : ¬ Claimed_1_1 := by
  intro hC
  obtain ⟨l, p, e, s, m, args, below, hfl, ⟨hL, hW, hadm, -, hcas, hclk, hfr, hargs, hheap, happ, hcalls, hrest, hpre⟩, n, o, h1, -, h3, h4⟩ := evs1.falls
  obtain ⟨n', o', k1, -, k3, k4⟩ := hC l hfl hL hW p e hadm hcas hclk s m args below hfr hargs hheap happ ⟨hcalls, hrest, hpre⟩
  obtain ⟨rfl, rfl⟩ := the_end_unique (f := fun k => stepsAlone p.tables e k s) h1 h3 k1 k3
  exact h4 k4
theorem evs1.notOwed : ¬ (Claimed_1_1 ∧ Claimed_1_2) := fun h => evs1.notClaimed h.1

