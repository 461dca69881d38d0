theorem wsL_in : ∀ w ∈ wsL_law, w ∈ lw_tbl := by
  intro w h
  unfold wsL_law at h
  simp only [List.mem_append] at h
  rcases h with ((((((((((((h | h | h | h | h | h | h | h | h | h | h | h | h | h | h | h | h | h | h | h | h | h | h | h | h | h | h | h | h | h | h | h | h | h | h | h | h | h | h | h | h | h | h | h | h) | h) | h) | h) | h) | h) | h) | h) | h) | h) | h) | h) | h
  · exact li_1 w h
  · exact li_2 w h
  · exact li_3 w h
  · exact li_4 w h
  · exact li_5 w h
  · exact li_6 w h
  · exact li_7 w h
  · exact li_8 w h
  · exact li_9 w h
  · exact li_10 w h
  · exact li_11 w h
  · exact li_12 w h
  · exact li_13 w h
  · exact li_14 w h
  · exact li_15 w h
  · exact li_16 w h
  · exact li_17 w h
  · exact li_18 w h
  · exact li_19 w h
  · exact li_20 w h
  · exact li_21 w h
  · exact li_22 w h
  · exact li_23 w h
  · exact li_24 w h
  · exact li_25 w h
  · exact li_26 w h
  · exact li_27 w h
  · exact li_28 w h
  · exact li_29 w h
  · exact li_30 w h
  · exact li_31 w h
  · exact li_32 w h
  · exact li_33 w h
  · exact li_34 w h
  · exact li_35 w h
  · exact li_36 w h
  · exact li_37 w h
  · exact li_38 w h
  · exact li_39 w h
  · exact li_40 w h
  · exact li_41 w h
  · exact li_42 w h
  · exact li_43 w h
  · exact li_44 w h
  · exact li_45 w h
  · exact lx_9 w h
  · exact lx_10 w h
  · exact lx_7 w h
  · exact lx_8 w h
  · exact lx_5 w h
  · exact lx_2 w h
  · exact lx_1 w h
  · exact lx_6 w h
  · exact lx_3 w h
  · exact lx_4 w h
  · exact lx_0 w h
  · exact absurd h List.not_mem_nil
theorem nwF_in : ∀ q ∈ nwF, Cond.fieldLinkNest q.1 q.2.1 q.2.2.1 q.2.2.2.1 q.2.2.2.2 "WellTalk" ∈ lw_tbl := by
  have h := mem_r (big := lw_tbl) (ws := nwF.map (fun q => Cond.fieldLinkNest q.1 q.2.1 q.2.2.1 q.2.2.2.1 q.2.2.2.2 "WellTalk")) [126, 128, 156, 145, 147, 150, 153, 191, 181, 183, 185, 188, 220, 306, 302, 304, 308, 345, 347, 349, 243, 159, 265, 261, 263, 281, 310, 213, 239, 237, 241, 219, 215, 212, 217, 187, 180, 283, 144, 155, 285, 158, 280, 152, 149, 125, 124] (by decide +kernel)
  exact fun q hq => h _ (List.mem_map.mpr ⟨q, hq, rfl⟩)
theorem nwM_in : ∀ q ∈ nwM, Cond.methodLinkNest q.1 q.2.1 q.2.2 "WellTalk" ∈ lw_tbl := by
  have h := mem_r (big := lw_tbl) (ws := nwM.map (fun q => Cond.methodLinkNest q.1 q.2.1 q.2.2 "WellTalk")) [139, 175, 207, 232, 256, 275, 297, 340, 626, 659, 582, 849, 440, 778] (by decide +kernel)
  exact fun q hq => h _ (List.mem_map.mpr ⟨q, hq, rfl⟩)
theorem kst_in : ∀ q ∈ kst, Cond.stringRef q.1 q.2.1 q.2.2.1 ∈ lw_tbl := by
  have h := mem_r (big := lw_tbl) (ws := kst.map (fun q => Cond.stringRef q.1 q.2.1 q.2.2.1)) [552, 543, 545, 546, 551, 435, 525, 526] (by decide +kernel)
  exact fun q hq => h _ (List.mem_map.mpr ⟨q, hq, rfl⟩)
theorem ao_in : ∀ w ∈ [Cond.arrayOver (.object RX7), Cond.arrayOver (.object RX6), Cond.arrayOver (.object RX4), Cond.arrayOver (.object RX0)], w ∈ lw_tbl := mem_r [113, 254, 295, 338] (by decide +kernel)
