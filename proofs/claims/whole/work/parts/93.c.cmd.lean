/-! The reference reads commands. -/
theorem kpWr {X : Option (Int × knMem)} {P : Int × knMem → Prop} (h : kbH X P) : kbH (Option.bind X (fun q => some (q.1, q.2))) P := h.bind (fun q hq => kbH_some.mpr hq)
theorem kpRel0 {x y : Int → Int} : kpRel 0 x y := fun k k0 k1 => by omega
theorem kp13_none {μ : knMem} {nc : Int → Int} {L c s : Int} {x y : Int → Int} (hT : kpTk nc L) (h : kpTr μ nc L) (hc : 0 ≤ c) (h1 : nc (c) ≠ 99) (h2 : nc (c) ≠ 117) (h3 : nc (c) ≠ 112) (h4 : nc (c) ≠ 115) (h5 : nc (c) ≠ 109) (h6 : nc (c) ≠ 114) (h7 : nc (c) ≠ 116) (h8 : nc (c) ≠ 98) : kbH (kfX13_readsCommand (kpMr μ c s y)) (kpPr μ 99 (kpCd nc 0 c x)) := by
  have hr : kpCd nc 0 c x = kpFw nc [99, 117, 114, 108, 32] [110, 115, 112] (1, c, 0, x) := rfl
  generalize kpCd nc 0 c x = r at hr ⊢
  unfold kfX13_readsCommand
  rw [kp13_next hT h hc, Option.bind_some, kpMr_up26]
  dsimp only
  refine kpRN hT h (by omega) (by omega) (by omega) ?_
  refine kpRN hT h (by omega) (by omega) (by omega) ?_
  refine kpRN hT h (by omega) (by omega) (by omega) ?_
  refine kpRN hT h (by omega) (by omega) (by omega) ?_
  refine kpRN hT h (by omega) (by omega) (by omega) ?_
  refine kpRN hT h (by omega) (by omega) (by omega) ?_
  refine kpRN hT h (by omega) (by omega) (by omega) ?_
  refine kpRN hT h (by omega) (by omega) (by omega) ?_
  exact kpFail (kpFwN hr h1)
theorem kp13_c {μ : knMem} {nc : Int → Int} {L c s : Int} {x y : Int → Int} (hT : kpTk nc L) (h : kpTr μ nc L) (hc : 0 ≤ c) (h1 : nc (c) = 99) : kbH (kfX13_readsCommand (kpMr μ c s y)) (kpPr μ 99 (kpCd nc 0 c x)) := by
  have hr : kpCd nc 0 c x = kpFw nc [99, 117, 114, 108, 32] [110, 115, 112] (1, c, 0, x) := rfl
  generalize kpCd nc 0 c x = r at hr ⊢
  unfold kfX13_readsCommand
  rw [kp13_next hT h hc, Option.bind_some, kpMr_up26]
  dsimp only
  replace hr := kpFwY hr h1
  refine kpRY hT h (by omega) (by omega) h1 ?_
  refine kpRC hT h hr (by omega) (by omega) (fun hr => kpFail hr) (fun hr => ?_)
  refine kpRC hT h hr (by omega) (by omega) (fun hr => kpFail hr) (fun hr => ?_)
  refine kpRC hT h hr (by omega) (by omega) (fun hr => kpFail hr) (fun hr => ?_)
  refine kpRC hT h hr (by omega) (by omega) (fun hr => kpFail hr) (fun hr => ?_)
  replace hr : r = kpPts nc [110, 115, 112] (1, _, 0, x) := hr
  have hxy : kpRel 0 x y := kpRel0
  refine kpRU hT h hr hxy (by omega) (by omega) (fun hr => kpFail hr) (fun c1 x1 y1 hc1 hr hxy => ?_)
  replace hxy : kpRel 1 x1 y1 := hxy
  replace hr : r = kpPts nc _ (1, c1, 1, x1) := hr
  refine kpRO hT h hr rfl (by omega) (by omega) hxy (by omega) (by omega) (fun hr y' => kpFail hr) (fun c2 x2 y2 hc2 hr hxy => ?_)
  replace hxy : kpRel 2 x2 y2 := hxy
  replace hr : r = kpPts nc _ (1, c2, 2, x2) := hr
  refine kpRO hT h hr rfl (by omega) (by omega) hxy (by omega) (by omega) (fun hr y' => kpFail hr) (fun c3 x3 y3 hc3 hr hxy => ?_)
  replace hxy : kpRel 3 x3 y3 := hxy
  replace hr : r = kpPts nc _ (1, c3, 3, x3) := hr
  exact kpEnd hr (by first | rfl | exact h1) hxy
theorem kp13_ux {μ : knMem} {nc : Int → Int} {L c s : Int} {x y : Int → Int} (hT : kpTk nc L) (h : kpTr μ nc L) (hc : 0 ≤ c) (h1 : nc (c) = 117) (h2 : nc (c + 1) ≠ 110) : kbH (kfX13_readsCommand (kpMr μ c s y)) (kpPr μ 117 (kpCd nc 1 c x)) := by
  have hr : kpCd nc 1 c x = kpFw nc [117, 110, 99, 117, 114, 108, 32] [100] (1, c, 0, x) := rfl
  generalize kpCd nc 1 c x = r at hr ⊢
  unfold kfX13_readsCommand
  rw [kp13_next hT h hc, Option.bind_some, kpMr_up26]
  dsimp only
  refine kpRN hT h (by omega) (by omega) (by omega) ?_
  replace hr := kpFwY hr h1
  refine kpRY hT h (by omega) (by omega) h1 ?_
  refine kpWr ?_
  unfold kfX13_readsU
  dsimp only
  refine kpRN hT h (by omega) (by omega) (by omega) ?_
  exact kpFail (kpFwN hr h2)
theorem kp13_unx {μ : knMem} {nc : Int → Int} {L c s : Int} {x y : Int → Int} (hT : kpTk nc L) (h : kpTr μ nc L) (hc : 0 ≤ c) (h1 : nc (c) = 117) (h2 : nc (c + 1) = 110) (h3 : nc (c + 1 + 1) ≠ 99) (h4 : nc (c + 1 + 1) ≠ 112) : kbH (kfX13_readsCommand (kpMr μ c s y)) (kpPr μ 117 (kpCd nc 1 c x)) := by
  have hr : kpCd nc 1 c x = kpFw nc [117, 110, 99, 117, 114, 108, 32] [100] (1, c, 0, x) := rfl
  generalize kpCd nc 1 c x = r at hr ⊢
  unfold kfX13_readsCommand
  rw [kp13_next hT h hc, Option.bind_some, kpMr_up26]
  dsimp only
  refine kpRN hT h (by omega) (by omega) (by omega) ?_
  replace hr := kpFwY hr h1
  refine kpRY hT h (by omega) (by omega) h1 ?_
  refine kpWr ?_
  unfold kfX13_readsU
  dsimp only
  replace hr := kpFwY hr h2
  refine kpRY hT h (by omega) (by omega) h2 ?_
  refine kpRN hT h (by omega) (by omega) (by omega) ?_
  dsimp only
  rw [kpMr_up26]
  refine kpRN hT h (by omega) (by omega) (by omega) ?_
  exact kpFail (kpFwN hr h3)
theorem kp13_unc {μ : knMem} {nc : Int → Int} {L c s : Int} {x y : Int → Int} (hT : kpTk nc L) (h : kpTr μ nc L) (hc : 0 ≤ c) (h1 : nc (c) = 117) (h2 : nc (c + 1) = 110) (h3 : nc (c + 1 + 1) = 99) : kbH (kfX13_readsCommand (kpMr μ c s y)) (kpPr μ 117 (kpCd nc 1 c x)) := by
  have hr : kpCd nc 1 c x = kpFw nc [117, 110, 99, 117, 114, 108, 32] [100] (1, c, 0, x) := rfl
  generalize kpCd nc 1 c x = r at hr ⊢
  unfold kfX13_readsCommand
  rw [kp13_next hT h hc, Option.bind_some, kpMr_up26]
  dsimp only
  refine kpRN hT h (by omega) (by omega) (by omega) ?_
  replace hr := kpFwY hr h1
  refine kpRY hT h (by omega) (by omega) h1 ?_
  refine kpWr ?_
  unfold kfX13_readsU
  dsimp only
  replace hr := kpFwY hr h2
  refine kpRY hT h (by omega) (by omega) h2 ?_
  replace hr := kpFwY hr h3
  refine kpRY hT h (by omega) (by omega) h3 ?_
  refine kpRC hT h hr (by omega) (by omega) (fun hr => kpFail hr) (fun hr => ?_)
  refine kpRC hT h hr (by omega) (by omega) (fun hr => kpFail hr) (fun hr => ?_)
  refine kpRC hT h hr (by omega) (by omega) (fun hr => kpFail hr) (fun hr => ?_)
  refine kpRC hT h hr (by omega) (by omega) (fun hr => kpFail hr) (fun hr => ?_)
  replace hr : r = kpPts nc [100] (1, _, 0, x) := hr
  have hxy : kpRel 0 x y := kpRel0
  refine kpRD hT h hr hxy (by omega) (by omega) (fun hr => kpFail hr) (fun c1 x1 y1 hc1 hr hxy => ?_)
  replace hxy : kpRel 1 x1 y1 := hxy
  replace hr : r = kpPts nc _ (1, c1, 1, x1) := hr
  exact kpEnd hr (by first | rfl | exact h1) hxy
theorem kp13_unp {μ : knMem} {nc : Int → Int} {L c s : Int} {x y : Int → Int} (hT : kpTk nc L) (h : kpTr μ nc L) (hc : 0 ≤ c) (h1 : nc (c) = 117) (h2 : nc (c + 1) = 110) (h3 : nc (c + 1 + 1) = 112) : kbH (kfX13_readsCommand (kpMr μ c s y)) (kpPr μ 118 (kpCd nc 3 c x)) := by
  have hr : kpCd nc 3 c x = kpFw nc [117, 110, 112, 111, 107, 101, 32] [100, 32, 100] (1, c, 0, x) := rfl
  generalize kpCd nc 3 c x = r at hr ⊢
  unfold kfX13_readsCommand
  rw [kp13_next hT h hc, Option.bind_some, kpMr_up26]
  dsimp only
  refine kpRN hT h (by omega) (by omega) (by omega) ?_
  replace hr := kpFwY hr h1
  refine kpRY hT h (by omega) (by omega) h1 ?_
  refine kpWr ?_
  unfold kfX13_readsU
  dsimp only
  replace hr := kpFwY hr h2
  refine kpRY hT h (by omega) (by omega) h2 ?_
  refine kpRN hT h (by omega) (by omega) (by omega) ?_
  dsimp only
  rw [kpMr_up26]
  replace hr := kpFwY hr h3
  refine kpRY hT h (by omega) (by omega) h3 ?_
  refine kpRC hT h hr (by omega) (by omega) (fun hr => kpFail hr) (fun hr => ?_)
  refine kpRC hT h hr (by omega) (by omega) (fun hr => kpFail hr) (fun hr => ?_)
  refine kpRC hT h hr (by omega) (by omega) (fun hr => kpFail hr) (fun hr => ?_)
  refine kpRC hT h hr (by omega) (by omega) (fun hr => kpFail hr) (fun hr => ?_)
  replace hr : r = kpPts nc [100, 32, 100] (1, _, 0, x) := hr
  have hxy : kpRel 0 x y := kpRel0
  refine kpRD hT h hr hxy (by omega) (by omega) (fun hr => kpFail hr) (fun c1 x1 y1 hc1 hr hxy => ?_)
  replace hxy : kpRel 1 x1 y1 := hxy
  replace hr : r = kpPts nc _ (1, c1, 1, x1) := hr
  refine kpRL hT h hr (by omega) (by omega) (fun hr => kpFail hr) (fun hr => ?_)
  refine kpRD hT h hr hxy (by omega) (by omega) (fun hr => kpFail hr) (fun c2 x2 y2 hc2 hr hxy => ?_)
  replace hxy : kpRel 2 x2 y2 := hxy
  replace hr : r = kpPts nc _ (1, c2, 2, x2) := hr
  exact kpEnd hr (by first | rfl | exact h1) hxy
theorem kp13_px {μ : knMem} {nc : Int → Int} {L c s : Int} {x y : Int → Int} (hT : kpTk nc L) (h : kpTr μ nc L) (hc : 0 ≤ c) (h1 : nc (c) = 112) (h2 : nc (c + 1) ≠ 108) (h3 : nc (c + 1) ≠ 111) : kbH (kfX13_readsCommand (kpMr μ c s y)) (kpPr μ 112 (kpCd nc 2 c x)) := by
  have hr : kpCd nc 2 c x = kpFw nc [112, 111, 107, 101, 32] [110, 32, 110, 119, 115] (1, c, 0, x) := rfl
  generalize kpCd nc 2 c x = r at hr ⊢
  unfold kfX13_readsCommand
  rw [kp13_next hT h hc, Option.bind_some, kpMr_up26]
  dsimp only
  refine kpRN hT h (by omega) (by omega) (by omega) ?_
  refine kpRN hT h (by omega) (by omega) (by omega) ?_
  replace hr := kpFwY hr h1
  refine kpRY hT h (by omega) (by omega) h1 ?_
  refine kpWr ?_
  unfold kfX13_readsP
  dsimp only
  refine kpRN hT h (by omega) (by omega) (by omega) ?_
  refine kpRN hT h (by omega) (by omega) (by omega) ?_
  exact kpFail (kpFwN hr h3)
theorem kp13_po {μ : knMem} {nc : Int → Int} {L c s : Int} {x y : Int → Int} (hT : kpTk nc L) (h : kpTr μ nc L) (hc : 0 ≤ c) (h1 : nc (c) = 112) (h2 : nc (c + 1) = 111) : kbH (kfX13_readsCommand (kpMr μ c s y)) (kpPr μ 112 (kpCd nc 2 c x)) := by
  have hr : kpCd nc 2 c x = kpFw nc [112, 111, 107, 101, 32] [110, 32, 110, 119, 115] (1, c, 0, x) := rfl
  generalize kpCd nc 2 c x = r at hr ⊢
  unfold kfX13_readsCommand
  rw [kp13_next hT h hc, Option.bind_some, kpMr_up26]
  dsimp only
  refine kpRN hT h (by omega) (by omega) (by omega) ?_
  refine kpRN hT h (by omega) (by omega) (by omega) ?_
  replace hr := kpFwY hr h1
  refine kpRY hT h (by omega) (by omega) h1 ?_
  refine kpWr ?_
  unfold kfX13_readsP
  dsimp only
  refine kpRN hT h (by omega) (by omega) (by omega) ?_
  replace hr := kpFwY hr h2
  refine kpRY hT h (by omega) (by omega) h2 ?_
  refine kpRC hT h hr (by omega) (by omega) (fun hr => kpFail hr) (fun hr => ?_)
  refine kpRC hT h hr (by omega) (by omega) (fun hr => kpFail hr) (fun hr => ?_)
  refine kpRC hT h hr (by omega) (by omega) (fun hr => kpFail hr) (fun hr => ?_)
  replace hr : r = kpPts nc [110, 32, 110, 119, 115] (1, _, 0, x) := hr
  have hxy : kpRel 0 x y := kpRel0
  refine kpRU hT h hr hxy (by omega) (by omega) (fun hr => kpFail hr) (fun c1 x1 y1 hc1 hr hxy => ?_)
  replace hxy : kpRel 1 x1 y1 := hxy
  replace hr : r = kpPts nc _ (1, c1, 1, x1) := hr
  refine kpRL hT h hr (by omega) (by omega) (fun hr => kpFail hr) (fun hr => ?_)
  refine kpRU hT h hr hxy (by omega) (by omega) (fun hr => kpFail hr) (fun c2 x2 y2 hc2 hr hxy => ?_)
  replace hxy : kpRel 2 x2 y2 := hxy
  replace hr : r = kpPts nc _ (1, c2, 2, x2) := hr
  refine kpRO hT h hr rfl (by omega) (by omega) hxy (by omega) (by omega) (fun hr y' => kpFail hr) (fun c3 x3 y3 hc3 hr hxy => ?_)
  replace hxy : kpRel 3 x3 y3 := hxy
  replace hr : r = kpPts nc _ (1, c3, 3, x3) := hr
  refine kpRO hT h hr rfl (by omega) (by omega) hxy (by omega) (by omega) (fun hr y' => kpFail hr) (fun c4 x4 y4 hc4 hr hxy => ?_)
  replace hxy : kpRel 4 x4 y4 := hxy
  replace hr : r = kpPts nc _ (1, c4, 4, x4) := hr
  exact kpEnd hr (by first | rfl | exact h1) hxy
theorem kp13_pl {μ : knMem} {nc : Int → Int} {L c s : Int} {x y : Int → Int} (hT : kpTk nc L) (h : kpTr μ nc L) (hc : 0 ≤ c) (h1 : nc (c) = 112) (h2 : nc (c + 1) = 108) : kbH (kfX13_readsCommand (kpMr μ c s y)) (kpPr μ 108 (kpCd nc 9 c x)) := by
  have hr : kpCd nc 9 c x = kpFw nc [112, 108, 97, 121, 101, 114] [] (1, c, 0, x) := rfl
  generalize kpCd nc 9 c x = r at hr ⊢
  unfold kfX13_readsCommand
  rw [kp13_next hT h hc, Option.bind_some, kpMr_up26]
  dsimp only
  refine kpRN hT h (by omega) (by omega) (by omega) ?_
  refine kpRN hT h (by omega) (by omega) (by omega) ?_
  replace hr := kpFwY hr h1
  refine kpRY hT h (by omega) (by omega) h1 ?_
  refine kpWr ?_
  unfold kfX13_readsP
  dsimp only
  replace hr := kpFwY hr h2
  refine kpRY hT h (by omega) (by omega) h2 ?_
  dsimp only
  rw [kpMr_up26]
  refine kpRC hT h hr (by omega) (by omega) (fun hr => kpFail hr) (fun hr => ?_)
  refine kpRC hT h hr (by omega) (by omega) (fun hr => kpFail hr) (fun hr => ?_)
  refine kpRC hT h hr (by omega) (by omega) (fun hr => kpFail hr) (fun hr => ?_)
  refine kpRC hT h hr (by omega) (by omega) (fun hr => kpFail hr) (fun hr => ?_)
  replace hr : r = kpPts nc [] (1, _, 0, x) := hr
  have hxy : kpRel 0 x y := kpRel0
  exact kpEnd hr (by first | rfl | exact h1) hxy
theorem kp13_sx {μ : knMem} {nc : Int → Int} {L c s : Int} {x y : Int → Int} (hT : kpTk nc L) (h : kpTr μ nc L) (hc : 0 ≤ c) (h1 : nc (c) = 115) (h2 : nc (c + 1) ≠ 119) (h3 : nc (c + 1) ≠ 101) : kbH (kfX13_readsCommand (kpMr μ c s y)) (kpPr μ 115 (kpCd nc 4 c x)) := by
  have hr : kpCd nc 4 c x = kpFw nc [115, 119, 105, 116, 99, 104, 32] [100] (1, c, 0, x) := rfl
  generalize kpCd nc 4 c x = r at hr ⊢
  unfold kfX13_readsCommand
  rw [kp13_next hT h hc, Option.bind_some, kpMr_up26]
  dsimp only
  refine kpRN hT h (by omega) (by omega) (by omega) ?_
  refine kpRN hT h (by omega) (by omega) (by omega) ?_
  refine kpRN hT h (by omega) (by omega) (by omega) ?_
  replace hr := kpFwY hr h1
  refine kpRY hT h (by omega) (by omega) h1 ?_
  refine kpWr ?_
  unfold kfX13_readsS
  dsimp only
  refine kpRN hT h (by omega) (by omega) (by omega) ?_
  dsimp only
  rw [kpMr_up26]
  refine kpRN hT h (by omega) (by omega) (by omega) ?_
  exact kpFail (kpFwN hr h2)
theorem kp13_sw {μ : knMem} {nc : Int → Int} {L c s : Int} {x y : Int → Int} (hT : kpTk nc L) (h : kpTr μ nc L) (hc : 0 ≤ c) (h1 : nc (c) = 115) (h2 : nc (c + 1) = 119) : kbH (kfX13_readsCommand (kpMr μ c s y)) (kpPr μ 115 (kpCd nc 4 c x)) := by
  have hr : kpCd nc 4 c x = kpFw nc [115, 119, 105, 116, 99, 104, 32] [100] (1, c, 0, x) := rfl
  generalize kpCd nc 4 c x = r at hr ⊢
  unfold kfX13_readsCommand
  rw [kp13_next hT h hc, Option.bind_some, kpMr_up26]
  dsimp only
  refine kpRN hT h (by omega) (by omega) (by omega) ?_
  refine kpRN hT h (by omega) (by omega) (by omega) ?_
  refine kpRN hT h (by omega) (by omega) (by omega) ?_
  replace hr := kpFwY hr h1
  refine kpRY hT h (by omega) (by omega) h1 ?_
  refine kpWr ?_
  unfold kfX13_readsS
  dsimp only
  replace hr := kpFwY hr h2
  refine kpRY hT h (by omega) (by omega) h2 ?_
  refine kpRC hT h hr (by omega) (by omega) (fun hr => kpFail hr) (fun hr => ?_)
  refine kpRC hT h hr (by omega) (by omega) (fun hr => kpFail hr) (fun hr => ?_)
  refine kpRC hT h hr (by omega) (by omega) (fun hr => kpFail hr) (fun hr => ?_)
  refine kpRC hT h hr (by omega) (by omega) (fun hr => kpFail hr) (fun hr => ?_)
  refine kpRC hT h hr (by omega) (by omega) (fun hr => kpFail hr) (fun hr => ?_)
  replace hr : r = kpPts nc [100] (1, _, 0, x) := hr
  have hxy : kpRel 0 x y := kpRel0
  refine kpRD hT h hr hxy (by omega) (by omega) (fun hr => kpFail hr) (fun c1 x1 y1 hc1 hr hxy => ?_)
  replace hxy : kpRel 1 x1 y1 := hxy
  replace hr : r = kpPts nc _ (1, c1, 1, x1) := hr
  exact kpEnd hr (by first | rfl | exact h1) hxy
theorem kp13_se {μ : knMem} {nc : Int → Int} {L c s : Int} {x y : Int → Int} (hT : kpTk nc L) (h : kpTr μ nc L) (hc : 0 ≤ c) (h1 : nc (c) = 115) (h2 : nc (c + 1) = 101) : kbH (kfX13_readsCommand (kpMr μ c s y)) (kpPr μ 101 (kpCd nc 11 c x)) := by
  have hr : kpCd nc 11 c x = kpFw nc [115, 101, 116, 116, 108, 101] [] (1, c, 0, x) := rfl
  generalize kpCd nc 11 c x = r at hr ⊢
  unfold kfX13_readsCommand
  rw [kp13_next hT h hc, Option.bind_some, kpMr_up26]
  dsimp only
  refine kpRN hT h (by omega) (by omega) (by omega) ?_
  refine kpRN hT h (by omega) (by omega) (by omega) ?_
  refine kpRN hT h (by omega) (by omega) (by omega) ?_
  replace hr := kpFwY hr h1
  refine kpRY hT h (by omega) (by omega) h1 ?_
  refine kpWr ?_
  unfold kfX13_readsS
  dsimp only
  refine kpRN hT h (by omega) (by omega) (by omega) ?_
  dsimp only
  rw [kpMr_up26]
  replace hr := kpFwY hr h2
  refine kpRY hT h (by omega) (by omega) h2 ?_
  refine kpRC hT h hr (by omega) (by omega) (fun hr => kpFail hr) (fun hr => ?_)
  refine kpRC hT h hr (by omega) (by omega) (fun hr => kpFail hr) (fun hr => ?_)
  refine kpRC hT h hr (by omega) (by omega) (fun hr => kpFail hr) (fun hr => ?_)
  refine kpRC hT h hr (by omega) (by omega) (fun hr => kpFail hr) (fun hr => ?_)
  replace hr : r = kpPts nc [] (1, _, 0, x) := hr
  have hxy : kpRel 0 x y := kpRel0
  exact kpEnd hr (by first | rfl | exact h1) hxy
theorem kp13_m {μ : knMem} {nc : Int → Int} {L c s : Int} {x y : Int → Int} (hT : kpTk nc L) (h : kpTr μ nc L) (hc : 0 ≤ c) (h1 : nc (c) = 109) : kbH (kfX13_readsCommand (kpMr μ c s y)) (kpPr μ 109 (kpCd nc 5 c x)) := by
  have hr : kpCd nc 5 c x = kpFw nc [109, 105, 114, 114, 111, 114] [] (1, c, 0, x) := rfl
  generalize kpCd nc 5 c x = r at hr ⊢
  unfold kfX13_readsCommand
  rw [kp13_next hT h hc, Option.bind_some, kpMr_up26]
  dsimp only
  refine kpRN hT h (by omega) (by omega) (by omega) ?_
  refine kpRN hT h (by omega) (by omega) (by omega) ?_
  refine kpRN hT h (by omega) (by omega) (by omega) ?_
  refine kpRN hT h (by omega) (by omega) (by omega) ?_
  replace hr := kpFwY hr h1
  refine kpRY hT h (by omega) (by omega) h1 ?_
  refine kpRC hT h hr (by omega) (by omega) (fun hr => kpFail hr) (fun hr => ?_)
  refine kpRC hT h hr (by omega) (by omega) (fun hr => kpFail hr) (fun hr => ?_)
  refine kpRC hT h hr (by omega) (by omega) (fun hr => kpFail hr) (fun hr => ?_)
  refine kpRC hT h hr (by omega) (by omega) (fun hr => kpFail hr) (fun hr => ?_)
  refine kpRC hT h hr (by omega) (by omega) (fun hr => kpFail hr) (fun hr => ?_)
  replace hr : r = kpPts nc [] (1, _, 0, x) := hr
  have hxy : kpRel 0 x y := kpRel0
  exact kpEnd hr (by first | rfl | exact h1) hxy
theorem kp13_rx {μ : knMem} {nc : Int → Int} {L c s : Int} {x y : Int → Int} (hT : kpTk nc L) (h : kpTr μ nc L) (hc : 0 ≤ c) (h1 : nc (c) = 114) (h2 : nc (c + 1) ≠ 101) : kbH (kfX13_readsCommand (kpMr μ c s y)) (kpPr μ 114 (kpCd nc 6 c x)) := by
  have hr : kpCd nc 6 c x = kpFw nc [114, 101, 118, 101, 114, 115, 101] [] (1, c, 0, x) := rfl
  generalize kpCd nc 6 c x = r at hr ⊢
  unfold kfX13_readsCommand
  rw [kp13_next hT h hc, Option.bind_some, kpMr_up26]
  dsimp only
  refine kpRN hT h (by omega) (by omega) (by omega) ?_
  refine kpRN hT h (by omega) (by omega) (by omega) ?_
  refine kpRN hT h (by omega) (by omega) (by omega) ?_
  refine kpRN hT h (by omega) (by omega) (by omega) ?_
  refine kpRN hT h (by omega) (by omega) (by omega) ?_
  replace hr := kpFwY hr h1
  refine kpRY hT h (by omega) (by omega) h1 ?_
  refine kpWr ?_
  unfold kfX13_readsR
  dsimp only
  refine kpRN hT h (by omega) (by omega) (by omega) ?_
  exact kpFail (kpFwN hr h2)
theorem kp13_rex {μ : knMem} {nc : Int → Int} {L c s : Int} {x y : Int → Int} (hT : kpTk nc L) (h : kpTr μ nc L) (hc : 0 ≤ c) (h1 : nc (c) = 114) (h2 : nc (c + 1) = 101) (h3 : nc (c + 1 + 1) ≠ 118) (h4 : nc (c + 1 + 1) ≠ 100) : kbH (kfX13_readsCommand (kpMr μ c s y)) (kpPr μ 114 (kpCd nc 6 c x)) := by
  have hr : kpCd nc 6 c x = kpFw nc [114, 101, 118, 101, 114, 115, 101] [] (1, c, 0, x) := rfl
  generalize kpCd nc 6 c x = r at hr ⊢
  unfold kfX13_readsCommand
  rw [kp13_next hT h hc, Option.bind_some, kpMr_up26]
  dsimp only
  refine kpRN hT h (by omega) (by omega) (by omega) ?_
  refine kpRN hT h (by omega) (by omega) (by omega) ?_
  refine kpRN hT h (by omega) (by omega) (by omega) ?_
  refine kpRN hT h (by omega) (by omega) (by omega) ?_
  refine kpRN hT h (by omega) (by omega) (by omega) ?_
  replace hr := kpFwY hr h1
  refine kpRY hT h (by omega) (by omega) h1 ?_
  refine kpWr ?_
  unfold kfX13_readsR
  dsimp only
  replace hr := kpFwY hr h2
  refine kpRY hT h (by omega) (by omega) h2 ?_
  refine kpRN hT h (by omega) (by omega) (by omega) ?_
  dsimp only
  rw [kpMr_up26]
  refine kpRN hT h (by omega) (by omega) (by omega) ?_
  exact kpFail (kpFwN hr h3)
theorem kp13_rev {μ : knMem} {nc : Int → Int} {L c s : Int} {x y : Int → Int} (hT : kpTk nc L) (h : kpTr μ nc L) (hc : 0 ≤ c) (h1 : nc (c) = 114) (h2 : nc (c + 1) = 101) (h3 : nc (c + 1 + 1) = 118) : kbH (kfX13_readsCommand (kpMr μ c s y)) (kpPr μ 114 (kpCd nc 6 c x)) := by
  have hr : kpCd nc 6 c x = kpFw nc [114, 101, 118, 101, 114, 115, 101] [] (1, c, 0, x) := rfl
  generalize kpCd nc 6 c x = r at hr ⊢
  unfold kfX13_readsCommand
  rw [kp13_next hT h hc, Option.bind_some, kpMr_up26]
  dsimp only
  refine kpRN hT h (by omega) (by omega) (by omega) ?_
  refine kpRN hT h (by omega) (by omega) (by omega) ?_
  refine kpRN hT h (by omega) (by omega) (by omega) ?_
  refine kpRN hT h (by omega) (by omega) (by omega) ?_
  refine kpRN hT h (by omega) (by omega) (by omega) ?_
  replace hr := kpFwY hr h1
  refine kpRY hT h (by omega) (by omega) h1 ?_
  refine kpWr ?_
  unfold kfX13_readsR
  dsimp only
  replace hr := kpFwY hr h2
  refine kpRY hT h (by omega) (by omega) h2 ?_
  replace hr := kpFwY hr h3
  refine kpRY hT h (by omega) (by omega) h3 ?_
  refine kpRC hT h hr (by omega) (by omega) (fun hr => kpFail hr) (fun hr => ?_)
  refine kpRC hT h hr (by omega) (by omega) (fun hr => kpFail hr) (fun hr => ?_)
  refine kpRC hT h hr (by omega) (by omega) (fun hr => kpFail hr) (fun hr => ?_)
  refine kpRC hT h hr (by omega) (by omega) (fun hr => kpFail hr) (fun hr => ?_)
  replace hr : r = kpPts nc [] (1, _, 0, x) := hr
  have hxy : kpRel 0 x y := kpRel0
  exact kpEnd hr (by first | rfl | exact h1) hxy
theorem kp13_red {μ : knMem} {nc : Int → Int} {L c s : Int} {x y : Int → Int} (hT : kpTk nc L) (h : kpTr μ nc L) (hc : 0 ≤ c) (h1 : nc (c) = 114) (h2 : nc (c + 1) = 101) (h3 : nc (c + 1 + 1) = 100) : kbH (kfX13_readsCommand (kpMr μ c s y)) (kpPr μ 100 (kpCd nc 8 c x)) := by
  have hr : kpCd nc 8 c x = kpFw nc [114, 101, 100, 117, 99, 101] [] (1, c, 0, x) := rfl
  generalize kpCd nc 8 c x = r at hr ⊢
  unfold kfX13_readsCommand
  rw [kp13_next hT h hc, Option.bind_some, kpMr_up26]
  dsimp only
  refine kpRN hT h (by omega) (by omega) (by omega) ?_
  refine kpRN hT h (by omega) (by omega) (by omega) ?_
  refine kpRN hT h (by omega) (by omega) (by omega) ?_
  refine kpRN hT h (by omega) (by omega) (by omega) ?_
  refine kpRN hT h (by omega) (by omega) (by omega) ?_
  replace hr := kpFwY hr h1
  refine kpRY hT h (by omega) (by omega) h1 ?_
  refine kpWr ?_
  unfold kfX13_readsR
  dsimp only
  replace hr := kpFwY hr h2
  refine kpRY hT h (by omega) (by omega) h2 ?_
  refine kpRN hT h (by omega) (by omega) (by omega) ?_
  dsimp only
  rw [kpMr_up26]
  replace hr := kpFwY hr h3
  refine kpRY hT h (by omega) (by omega) h3 ?_
  refine kpRC hT h hr (by omega) (by omega) (fun hr => kpFail hr) (fun hr => ?_)
  refine kpRC hT h hr (by omega) (by omega) (fun hr => kpFail hr) (fun hr => ?_)
  refine kpRC hT h hr (by omega) (by omega) (fun hr => kpFail hr) (fun hr => ?_)
  replace hr : r = kpPts nc [] (1, _, 0, x) := hr
  have hxy : kpRel 0 x y := kpRel0
  exact kpEnd hr (by first | rfl | exact h1) hxy
theorem kp13_t {μ : knMem} {nc : Int → Int} {L c s : Int} {x y : Int → Int} (hT : kpTk nc L) (h : kpTr μ nc L) (hc : 0 ≤ c) (h1 : nc (c) = 116) : kbH (kfX13_readsCommand (kpMr μ c s y)) (kpPr μ 116 (kpCd nc 7 c x)) := by
  have hr : kpCd nc 7 c x = kpFw nc [116, 117, 114, 110, 32] [110] (1, c, 0, x) := rfl
  generalize kpCd nc 7 c x = r at hr ⊢
  unfold kfX13_readsCommand
  rw [kp13_next hT h hc, Option.bind_some, kpMr_up26]
  dsimp only
  refine kpRN hT h (by omega) (by omega) (by omega) ?_
  refine kpRN hT h (by omega) (by omega) (by omega) ?_
  refine kpRN hT h (by omega) (by omega) (by omega) ?_
  refine kpRN hT h (by omega) (by omega) (by omega) ?_
  refine kpRN hT h (by omega) (by omega) (by omega) ?_
  refine kpRN hT h (by omega) (by omega) (by omega) ?_
  replace hr := kpFwY hr h1
  refine kpRY hT h (by omega) (by omega) h1 ?_
  refine kpRC hT h hr (by omega) (by omega) (fun hr => kpFail hr) (fun hr => ?_)
  refine kpRC hT h hr (by omega) (by omega) (fun hr => kpFail hr) (fun hr => ?_)
  refine kpRC hT h hr (by omega) (by omega) (fun hr => kpFail hr) (fun hr => ?_)
  refine kpRC hT h hr (by omega) (by omega) (fun hr => kpFail hr) (fun hr => ?_)
  replace hr : r = kpPts nc [110] (1, _, 0, x) := hr
  have hxy : kpRel 0 x y := kpRel0
  refine kpRU hT h hr hxy (by omega) (by omega) (fun hr => kpFail hr) (fun c1 x1 y1 hc1 hr hxy => ?_)
  replace hxy : kpRel 1 x1 y1 := hxy
  replace hr : r = kpPts nc _ (1, c1, 1, x1) := hr
  exact kpEnd hr (by first | rfl | exact h1) hxy
theorem kp13_b {μ : knMem} {nc : Int → Int} {L c s : Int} {x y : Int → Int} (hT : kpTk nc L) (h : kpTr μ nc L) (hc : 0 ≤ c) (h1 : nc (c) = 98) : kbH (kfX13_readsCommand (kpMr μ c s y)) (kpPr μ 98 (kpCd nc 10 c x)) := by
  have hr : kpCd nc 10 c x = kpFw nc [98, 101, 116, 32] [100, 32, 100, 58, 110] (1, c, 0, x) := rfl
  generalize kpCd nc 10 c x = r at hr ⊢
  unfold kfX13_readsCommand
  rw [kp13_next hT h hc, Option.bind_some, kpMr_up26]
  dsimp only
  refine kpRN hT h (by omega) (by omega) (by omega) ?_
  refine kpRN hT h (by omega) (by omega) (by omega) ?_
  refine kpRN hT h (by omega) (by omega) (by omega) ?_
  refine kpRN hT h (by omega) (by omega) (by omega) ?_
  refine kpRN hT h (by omega) (by omega) (by omega) ?_
  refine kpRN hT h (by omega) (by omega) (by omega) ?_
  refine kpRN hT h (by omega) (by omega) (by omega) ?_
  replace hr := kpFwY hr h1
  refine kpRY hT h (by omega) (by omega) h1 ?_
  refine kpRC hT h hr (by omega) (by omega) (fun hr => kpFail hr) (fun hr => ?_)
  refine kpRC hT h hr (by omega) (by omega) (fun hr => kpFail hr) (fun hr => ?_)
  refine kpRC hT h hr (by omega) (by omega) (fun hr => kpFail hr) (fun hr => ?_)
  replace hr : r = kpPts nc [100, 32, 100, 58, 110] (1, _, 0, x) := hr
  have hxy : kpRel 0 x y := kpRel0
  refine kpRD hT h hr hxy (by omega) (by omega) (fun hr => kpFail hr) (fun c1 x1 y1 hc1 hr hxy => ?_)
  replace hxy : kpRel 1 x1 y1 := hxy
  replace hr : r = kpPts nc _ (1, c1, 1, x1) := hr
  refine kpRL hT h hr (by omega) (by omega) (fun hr => kpFail hr) (fun hr => ?_)
  refine kpRD hT h hr hxy (by omega) (by omega) (fun hr => kpFail hr) (fun c2 x2 y2 hc2 hr hxy => ?_)
  replace hxy : kpRel 2 x2 y2 := hxy
  replace hr : r = kpPts nc _ (1, c2, 2, x2) := hr
  refine kpRL hT h hr (by omega) (by omega) (fun hr => kpFail hr) (fun hr => ?_)
  refine kpRU hT h hr hxy (by omega) (by omega) (fun hr => kpFail hr) (fun c3 x3 y3 hc3 hr hxy => ?_)
  replace hxy : kpRel 3 x3 y3 := hxy
  replace hr : r = kpPts nc _ (1, c3, 3, x3) := hr
  exact kpEnd hr (by first | rfl | exact h1) hxy
theorem kp13_cmd {nc : Int → Int} {L c : Int} (hT : kpTk nc L) (hc : 0 ≤ c) : ∃ w : Int, kpAt nc c w ∧ ∀ (μ : knMem) (s : Int) (x y : Int → Int), kpTr μ nc L → kbH (kfX13_readsCommand (kpMr μ c s y)) (kpPr μ (kpSo w) (kpCd nc w c x)) := by
  by_cases h1 : nc c = 99
  · exact ⟨0, kpAt_1 (by omega) (fun v v0 v1 e => by have := kpHd_s ⟨v0, v1⟩; omega), fun μ s x y h => kp13_c hT h hc h1⟩
  by_cases h2' : nc c = 117
  · have h1 := h2'
    by_cases h2 : nc (c + 1) = 110
    · by_cases h3 : nc (c + 1 + 1) = 99
      · exact ⟨1, kpAt_2 (u := 3) (m := 2) (by omega) (fun v v0 v1 e => by have := kpHd_s ⟨v0, v1⟩; omega) (by omega) (kpLc_g2 (v := 1) (by omega) (h1.trans (show (117 : Int) = kpHd 1 from rfl)) (h2.trans (show (110 : Int) = kpH2 1 from rfl))) (kpLc_2 (v := 3) (by omega) (show nc (c + 1 + 1) ≠ 112 from (by omega))), fun μ s x y h => kp13_unc hT h hc h1 h2 h3⟩
      by_cases h4 : nc (c + 1 + 1) = 112
      · exact ⟨3, kpAt_2 (u := 1) (m := 2) (by omega) (fun v v0 v1 e => by have := kpHd_s ⟨v0, v1⟩; omega) (by omega) (kpLc_g2 (v := 3) (by omega) (h1.trans (show (117 : Int) = kpHd 3 from rfl)) (h2.trans (show (110 : Int) = kpH2 3 from rfl))) (kpLc_2 (v := 1) (by omega) (show nc (c + 1 + 1) ≠ 99 from h3)), fun μ s x y h => kp13_unp hT h hc h1 h2 h4⟩
      exact ⟨1, kpAt_2 (u := 3) (m := 2) (by omega) (fun v v0 v1 e => by have := kpHd_s ⟨v0, v1⟩; omega) (by omega) (kpLc_g2 (v := 1) (by omega) (h1.trans (show (117 : Int) = kpHd 1 from rfl)) (h2.trans (show (110 : Int) = kpH2 1 from rfl))) (kpLc_2 (v := 3) (by omega) (show nc (c + 1 + 1) ≠ 112 from h4)), fun μ s x y h => kp13_unx hT h hc h1 h2 h3 h4⟩
    exact ⟨1, kpAt_2 (u := 3) (m := 1) (by omega) (fun v v0 v1 e => by have := kpHd_s ⟨v0, v1⟩; omega) (by omega) (kpLc_g1 (v := 1) (by omega) (h1.trans (show (117 : Int) = kpHd 1 from rfl))) (kpLc_1 (v := 3) (by omega) (show nc (c + 1) ≠ 110 from h2)), fun μ s x y h => kp13_ux hT h hc h1 h2⟩
  by_cases h3' : nc c = 112
  · have h1 := h3'
    by_cases h2 : nc (c + 1) = 108
    · exact ⟨9, kpAt_2 (u := 2) (m := 1) (by omega) (fun v v0 v1 e => by have := kpHd_s ⟨v0, v1⟩; omega) (by omega) (kpLc_g1 (v := 9) (by omega) (h1.trans (show (112 : Int) = kpHd 9 from rfl))) (kpLc_1 (v := 2) (by omega) (show nc (c + 1) ≠ 111 from (by omega))), fun μ s x y h => kp13_pl hT h hc h1 h2⟩
    by_cases h3 : nc (c + 1) = 111
    · exact ⟨2, kpAt_2 (u := 9) (m := 1) (by omega) (fun v v0 v1 e => by have := kpHd_s ⟨v0, v1⟩; omega) (by omega) (kpLc_g1 (v := 2) (by omega) (h1.trans (show (112 : Int) = kpHd 2 from rfl))) (kpLc_1 (v := 9) (by omega) (show nc (c + 1) ≠ 108 from h2)), fun μ s x y h => kp13_po hT h hc h1 h3⟩
    exact ⟨2, kpAt_2 (u := 9) (m := 1) (by omega) (fun v v0 v1 e => by have := kpHd_s ⟨v0, v1⟩; omega) (by omega) (kpLc_g1 (v := 2) (by omega) (h1.trans (show (112 : Int) = kpHd 2 from rfl))) (kpLc_1 (v := 9) (by omega) (show nc (c + 1) ≠ 108 from h2)), fun μ s x y h => kp13_px hT h hc h1 h2 h3⟩
  by_cases h4' : nc c = 115
  · have h1 := h4'
    by_cases h2 : nc (c + 1) = 119
    · exact ⟨4, kpAt_2 (u := 11) (m := 1) (by omega) (fun v v0 v1 e => by have := kpHd_s ⟨v0, v1⟩; omega) (by omega) (kpLc_g1 (v := 4) (by omega) (h1.trans (show (115 : Int) = kpHd 4 from rfl))) (kpLc_1 (v := 11) (by omega) (show nc (c + 1) ≠ 101 from (by omega))), fun μ s x y h => kp13_sw hT h hc h1 h2⟩
    by_cases h3 : nc (c + 1) = 101
    · exact ⟨11, kpAt_2 (u := 4) (m := 1) (by omega) (fun v v0 v1 e => by have := kpHd_s ⟨v0, v1⟩; omega) (by omega) (kpLc_g1 (v := 11) (by omega) (h1.trans (show (115 : Int) = kpHd 11 from rfl))) (kpLc_1 (v := 4) (by omega) (show nc (c + 1) ≠ 119 from h2)), fun μ s x y h => kp13_se hT h hc h1 h3⟩
    exact ⟨4, kpAt_2 (u := 11) (m := 1) (by omega) (fun v v0 v1 e => by have := kpHd_s ⟨v0, v1⟩; omega) (by omega) (kpLc_g1 (v := 4) (by omega) (h1.trans (show (115 : Int) = kpHd 4 from rfl))) (kpLc_1 (v := 11) (by omega) (show nc (c + 1) ≠ 101 from h3)), fun μ s x y h => kp13_sx hT h hc h1 h2 h3⟩
  by_cases h5' : nc c = 109
  · exact ⟨5, kpAt_1 (by omega) (fun v v0 v1 e => by have := kpHd_s ⟨v0, v1⟩; omega), fun μ s x y h => kp13_m hT h hc h5'⟩
  by_cases h6' : nc c = 114
  · have h1 := h6'
    by_cases h2 : nc (c + 1) = 101
    · by_cases h3 : nc (c + 1 + 1) = 118
      · exact ⟨6, kpAt_2 (u := 8) (m := 2) (by omega) (fun v v0 v1 e => by have := kpHd_s ⟨v0, v1⟩; omega) (by omega) (kpLc_g2 (v := 6) (by omega) (h1.trans (show (114 : Int) = kpHd 6 from rfl)) (h2.trans (show (101 : Int) = kpH2 6 from rfl))) (kpLc_2 (v := 8) (by omega) (show nc (c + 1 + 1) ≠ 100 from (by omega))), fun μ s x y h => kp13_rev hT h hc h1 h2 h3⟩
      by_cases h4 : nc (c + 1 + 1) = 100
      · exact ⟨8, kpAt_2 (u := 6) (m := 2) (by omega) (fun v v0 v1 e => by have := kpHd_s ⟨v0, v1⟩; omega) (by omega) (kpLc_g2 (v := 8) (by omega) (h1.trans (show (114 : Int) = kpHd 8 from rfl)) (h2.trans (show (101 : Int) = kpH2 8 from rfl))) (kpLc_2 (v := 6) (by omega) (show nc (c + 1 + 1) ≠ 118 from h3)), fun μ s x y h => kp13_red hT h hc h1 h2 h4⟩
      exact ⟨6, kpAt_2 (u := 8) (m := 2) (by omega) (fun v v0 v1 e => by have := kpHd_s ⟨v0, v1⟩; omega) (by omega) (kpLc_g2 (v := 6) (by omega) (h1.trans (show (114 : Int) = kpHd 6 from rfl)) (h2.trans (show (101 : Int) = kpH2 6 from rfl))) (kpLc_2 (v := 8) (by omega) (show nc (c + 1 + 1) ≠ 100 from h4)), fun μ s x y h => kp13_rex hT h hc h1 h2 h3 h4⟩
    exact ⟨6, kpAt_2 (u := 8) (m := 1) (by omega) (fun v v0 v1 e => by have := kpHd_s ⟨v0, v1⟩; omega) (by omega) (kpLc_g1 (v := 6) (by omega) (h1.trans (show (114 : Int) = kpHd 6 from rfl))) (kpLc_1 (v := 8) (by omega) (show nc (c + 1) ≠ 101 from h2)), fun μ s x y h => kp13_rx hT h hc h1 h2⟩
  by_cases h7' : nc c = 116
  · exact ⟨7, kpAt_1 (by omega) (fun v v0 v1 e => by have := kpHd_s ⟨v0, v1⟩; omega), fun μ s x y h => kp13_t hT h hc h7'⟩
  by_cases h8' : nc c = 98
  · exact ⟨10, kpAt_1 (by omega) (fun v v0 v1 e => by have := kpHd_s ⟨v0, v1⟩; omega), fun μ s x y h => kp13_b hT h hc h8'⟩
  exact ⟨0, kpAt_1 (by omega) (fun v v0 v1 e => by have := kpHd_s ⟨v0, v1⟩; omega), fun μ s x y h => kp13_none hT h hc h1 h2' h3' h4' h5' h6' h7' h8'⟩
