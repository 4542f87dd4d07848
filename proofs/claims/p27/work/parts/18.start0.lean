/-! the start: 18.start0 -/
/-- the launch of the printed witness, with the script of part 15 -/
def evs1.args0 : Array Value := #[.ref 0]
def evs1.about : State := start1.aboutOf ev_scr.toArray
def evs1.p0 : Program := .bare "" "" ""
def evs1.e0 : Env := launch0.env 0 0 0
theorem evs1.vm_eq (a b : Array Value) : (start1.aboutOf a).vm = (start1.aboutOf b).vm := rfl
set_option maxRecDepth 16384 in
theorem evs1.others : ((Cond.code x code maxLocals ret :: tables_1).filter (fun c => !c.onTables)).all (fun c => c.before args0 about) = true := by decide +kernel
theorem evs1.words : ∀ c ∈ (Cond.code x code maxLocals ret :: tables_1), c.before args0 about = true := by
  intro c hc
  cases h : c.onTables with
  | true => exact va_tabs h (vm_eq start1.cells0 ev_scr.toArray) (start1.words c hc)
  | false => exact List.all_eq_true.mp others c (List.mem_filter.mpr ⟨hc, by rw [h]; rfl⟩)

