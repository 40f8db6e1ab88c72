/-! what depends on the script and the text alone -/
theorem Ab_plc {σ τ : St} (h : Ab σ τ) : plc τ = plc σ := by funext u l; unfold plc; rw [Ab_jp h, Ab_jn h, Ab_ln3 h]
theorem Ab_wd {σ τ : St} (h : Ab σ τ) : wd τ = wd σ := by funext f s; unfold wd; rw [h.1 97 (by omega)]
theorem Ab_cst {σ τ : St} (h : Ab σ τ) : cst τ = cst σ := by funext f s; unfold cst; rw [h.1 100 (by omega), h.1 103 (by omega)]
theorem Ab_wdp {σ τ : St} (h : Ab σ τ) : wdp τ = wdp σ := by funext q; unfold wdp; rw [Ab_wd h]
theorem Ab_csp {σ τ : St} (h : Ab σ τ) : csp τ = csp σ := by funext q; unfold csp; rw [Ab_cst h]
theorem Ab_tw {σ τ : St} (h : Ab σ τ) : tw τ = tw σ := by
  funext ps
  induction ps with
  | nil => rfl
  | cons q ps ih => show wdp τ q + tw τ ps = wdp σ q + tw σ ps; rw [ih, Ab_wdp h]
theorem Ab_tp {σ τ : St} (h : Ab σ τ) : tp τ = tp σ := by
  funext ps
  induction ps with
  | nil => rfl
  | cons q ps ih => show csp τ q + tp τ ps = csp σ q + tp σ ps; rw [ih, Ab_csp h]
theorem Ab_pbl {σ τ : St} (h : Ab σ τ) : pbl τ = pbl σ := by
  funext x ps
  induction ps generalizing x with
  | nil => rfl
  | cons q ps ih => unfold pbl; rw [ih, Ab_wdp h, h.1 98 (by omega), h.1 99 (by omega)]
theorem Ab_slt {σ τ : St} (h : Ab σ τ) : slt τ = slt σ := by funext u l; unfold slt; rw [Ab_plc h]
theorem Ab_frm {σ τ : St} (h : Ab σ τ) : frm τ = frm σ := by funext a; unfold frm; rw [h.1 104 (by omega), h.1 105 (by omega)]
theorem Ab_sbA {σ τ : St} (h : Ab σ τ) : sbA τ = sbA σ := by funext u st l s; unfold sbA; rw [Ab_us h, h.1 94 (by omega)]
theorem Ab_optS {σ τ : St} (h : Ab σ τ) : optS τ = optS σ := by funext l f; unfold optS; rw [h.1 102 (by omega)]
theorem Ab_optF {σ τ : St} (h : Ab σ τ) : optF τ = optF σ := by funext u l; unfold optF; rw [Ab_frm h, Ab_slt h, Ab_optS h]
theorem Ab_opt {σ τ : St} (h : Ab σ τ) : opt τ = opt σ := by funext u; unfold opt; rw [Ab_kl h, Ab_optF h]
theorem Ab_stp {σ τ : St} (h : Ab σ τ) : stp τ = stp σ := by funext u T w st acc o; unfold stp; rw [Ab_sbA h, Ab_wd h, Ab_ln3 h, Ab_cst h]
theorem Ab_LA {σ τ : St} (h : Ab σ τ) : LA τ = LA σ := by
  funext E n u w st
  induction n generalizing u w st with
  | zero => rfl
  | succ n ih =>
    have : LA τ E n = LA σ E n := by funext u w st; exact ih u w st
    unfold LA
    rw [Ab_opt h, Ab_stp h, this]
theorem Ab_LL {σ τ : St} (h : Ab σ τ) : LL τ = LL σ := by funext E u w st; unfold LL; rw [Ab_LA h]
theorem Ab_lkR {σ τ : St} (h : Ab σ τ) : lkR τ = lkR σ := by funext u E; unfold lkR; rw [Ab_lk h]
theorem Ab_wE {σ τ : St} (h : Ab σ τ) : wE τ = wE σ := by funext b; unfold wE; rw [Ab_uc h, Ab_we h]
theorem Ab_bq {σ τ : St} (h : Ab σ τ) : bq τ = bq σ := by funext b; unfold bq; rw [Ab_bh h]
theorem Ab_plF {σ τ : St} (h : Ab σ τ) : plF τ = plF σ := by funext u; unfold plF pfM; rw [Ab_lb h, Ab_plc h, h.1 104 (by omega), h.1 105 (by omega)]
theorem Ab_plL {σ τ : St} (h : Ab σ τ) : plL τ = plL σ := by funext u c; unfold plL; rw [Ab_bq h]
theorem Ab_pls {σ τ : St} (h : Ab σ τ) : pls τ = pls σ := by
  have : plp τ = plp σ := by funext v; unfold plp; rw [Ab_lb h, Ab_plF h]
  funext u c; unfold pls; rw [Ab_plL h, this]
theorem Ab_plk {σ τ : St} (h : Ab σ τ) : plk τ = plk σ := by funext u c; unfold plk; rw [Ab_plL h, Ab_plF h]
theorem Ab_dg {σ τ : St} (h : Ab σ τ) : dg τ = dg σ := by funext i; unfold dg; rw [Ab_ts h]
theorem Ab_GPc {σ τ : St} (h : Ab σ τ) (hf : τ.2.1 8 17 = σ.2.1 8 17) : GPc τ = GPc σ := by
  funext q
  unfold GPc FOk
  rw [Ab_nU h, Ab_kl h, hf, h.1 102 (by omega), h.1 95 (by omega), h.1 96 (by omega), Ab_plc h]
/-- script, text and claims are untouched, whatever else was found anew -/
theorem Same.ab {σ τ : St} (h : Same σ τ) : Ab σ τ ∧ τ.2.1 8 17 = σ.2.1 8 17 := by
  obtain ⟨a, -, -, -, b, -, c, d, -⟩ := h
  exact ⟨⟨fun k hk => a k (by unfold SK; omega), b, d⟩, c⟩
