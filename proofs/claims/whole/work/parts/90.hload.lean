/-! load: what the law's loop needs of it -/
theorem hload : HLoad := by
  unfold HLoad
  intro f D zs st IE e1 e2 e3 In Ln I fb IL fc fs ft IY IPi fS IS LS IP LP W pl wl wp wt J d dr g gl gc mn nx nb gp sm gz sr gt hrel a Wr K hP kk
  obtain ⟨⟨sz, b, hF⟩, ⟨w, hh, dd, s, hPi⟩, ⟨c, tg, ln, ch, hLb⟩⟩ := id hrel
  have h8 := hF.fX.1
  have hlen := (wkR_ok (b := b) (sz := sz) h8).1
  have fin : ∀ J' : Nat → Int32, (∀ j, j < 11 → J' j = J j) → Rel I fb IPi fS IL fc fs ft J' g sm gl gc gt := fun J' lo => hrel.J (fun i hi => lo i (by omega))
  have same : ∀ i i', i < (wkR b sz).1.length → i' < (wkR b sz).1.length → nI i = nI i' → i = i' := fun i i' q1 q2 e => (nI_eq (by omega) (by omega)).mp e
  refine p_X_load hF.1 hF.fX (fun n W' pl' => hP _ ?_) (fun i hi ei n In' Ln' IY' IS' LS' IP' LP' W' pl' => hP _ ?_) (fun i hi ei cs rs dp mt ec pr a1 a2 hG q hq f' D' zs' st' In' Ln' IY' IS' LS' IP' LP' W' pl' => hP _ ?_) (fun i hi ei cs rs dp mt ec pr a1 a2 hG Dl hq f' D' zs' st' In' Ln' IY' IPi' fS' IS' LS' IP' LP' W' pl' y1 y2 => hP _ ?_)
  · refine p_M_load hF.2.1 hF.fM (fun _ J' dr' lo => ⟨fun _ => kk _ _ _ _ _ _ _ _ _ _ _ _ _ _ _ _ _ _ _ _ _ _ _ (fin J' lo), fun z => z rfl⟩) (fun i hi ei => absurd ⟨i, hi, ei⟩ n) (fun i hi ei => absurd ⟨i, hi, ei⟩ n) (fun i hi ei => absurd ⟨i, hi, ei⟩ n)
  · refine p_M_load hF.2.1 hF.fM (fun z => absurd ⟨i, hi, ei⟩ z) (fun i' hi' ei' n' J' dr' lo => ⟨fun _ => kk _ _ _ _ _ _ _ _ _ _ _ _ _ _ _ _ _ _ _ _ _ _ _ (fin J' lo), fun z => z rfl⟩) (fun i' hi' ei' cs rs dp mt ec pr a1 a2 hG => ?_) (fun i' hi' ei' cs rs dp mt ec pr a1 a2 hG => ?_)
    · rw [← same i i' hi hi' (ei.symm.trans ei')] at hG
      exact absurd ⟨cs, rs, dp, mt, ec, pr, a1, a2, hG⟩ n
    · rw [← same i i' hi hi' (ei.symm.trans ei')] at hG
      exact absurd ⟨cs, rs, dp, mt, ec, pr, a1, a2, hG⟩ n
  · refine p_M_load hF.2.1 hF.fM (fun z => absurd ⟨i, hi, ei⟩ z) (fun i' hi' ei' n => ?_) (fun i' hi' ei' cs' rs' dp' mt' ec' pr' a1' a2' hG' q' hq' J' d' dr' mn' nx' nb' sr' lo => ?_) (fun i' hi' ei' cs' rs' dp' mt' ec' pr' a1' a2' hG' Dl hq' => ?_)
    · rw [← same i i' hi hi' (ei.symm.trans ei')] at n
      exact absurd ⟨cs, rs, dp, mt, ec, pr, a1, a2, hG⟩ n
    · rw [← same i i' hi hi' (ei.symm.trans ei')] at hG'
      obtain ⟨rfl, rfl, rfl, rfl, rfl, rfl, rfl, rfl⟩ := hG.uni hG'
      rw [hq] at hq'
      cases hq'
      exact ⟨fun _ => kk _ _ _ _ _ _ _ _ _ _ _ _ _ _ _ _ _ _ _ _ _ _ _ (fin J' lo), fun z => z rfl⟩
    · rw [← same i i' hi hi' (ei.symm.trans ei')] at hG'
      obtain ⟨rfl, rfl, rfl, rfl, rfl, rfl, rfl, rfl⟩ := hG.uni hG'
      rw [hq] at hq'
      cases hq'
  · refine p_M_load hF.2.1 hF.fM (fun z => absurd ⟨i, hi, ei⟩ z) (fun i' hi' ei' n => ?_) (fun i' hi' ei' cs' rs' dp' mt' ec' pr' a1' a2' hG' q' hq' => ?_) (fun i' hi' ei' cs' rs' dp' mt' ec' pr' a1' a2' hG' Dl' hq' J' d' dr' mn' nx' nb' sm' sr' w1 lo w2 => ?_)
    · rw [← same i i' hi hi' (ei.symm.trans ei')] at n
      exact absurd ⟨cs, rs, dp, mt, ec, pr, a1, a2, hG⟩ n
    · rw [← same i i' hi hi' (ei.symm.trans ei')] at hG'
      obtain ⟨rfl, rfl, rfl, rfl, rfl, rfl, rfl, rfl⟩ := hG.uni hG'
      rw [hq] at hq'
      cases hq'
    · rw [← same i i' hi hi' (ei.symm.trans ei')] at hG'
      obtain ⟨rfl, rfl, rfl, rfl, rfl, rfl, rfl, rfl⟩ := hG.uni hG'
      rw [hq] at hq'
      cases hq'
      obtain ⟨⟨c1, c2⟩, ⟨r1, r2⟩, hd, hpr, he, hm⟩ := hG.facts
      refine ⟨fun _ => kk _ _ _ _ _ _ _ _ _ _ _ _ _ _ _ _ _ _ _ _ _ _ _ ⟨⟨sz, b, hF.frame (lo 1 (by decide) (by decide) (by decide) (by decide))⟩, ⟨cs, rs, dp, fun y x => smS Dl cs dp pr y x, ⟨y1.1, w1.1, y1.2.1, w1.2.1, y1.2.2, w1.2.2⟩, ⟨c1, c2, r1, r2, hd⟩, fun y x hy hx => ⟨smS_lt _ _ _ _ _ _, y2 y x hy hx, w2 y x hy hx⟩⟩, ⟨c, tg, ln, ch, hLb.frame (lo 7 (by decide) (by decide) (by decide) (by decide))⟩⟩, fun z => z rfl⟩
