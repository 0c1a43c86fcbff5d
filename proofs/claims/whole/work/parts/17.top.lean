/-! CONTRACTS OF ALL METHODS (laid by wip/whole/gen_top.py) -/
def pm_IOk (mi : Nat) : Prop := ((pm_p mi).all fun q => pm_okI mi ((pm_p mi).map Prod.fst) q.1 q.2) = true ∧ 0 ∈ (pm_p mi).map Prod.fst
theorem pm_IOk_of {mi : Nat} (h : (((pm_p mi).all fun q => pm_okI mi ((pm_p mi).map Prod.fst) q.1 q.2) && ((pm_p mi).map Prod.fst).contains 0) = true) : pm_IOk mi := by
  rw [Bool.and_eq_true] at h
  exact ⟨h.1, List.contains_iff_mem.mp h.2⟩
theorem pm_IOk_at {mi pc : Nat} (h : pm_IOk mi) (hp : pc ∈ (pm_p mi).map Prod.fst) : ∃ pl, pm_okI mi ((pm_p mi).map Prod.fst) pc pl = true := by
  obtain ⟨q, hq, rfl⟩ := List.mem_map.mp hp
  exact ⟨q.2, List.all_eq_true.mp h.1 q hq⟩
theorem pm_oc0 : ∀ i ∈ [0, 1, 2, 3, 4, 5, 6, 7, 8, 9, 10, 11, 12, 13, 14, 15], pm_MOk i ∧ pm_IOk i := List.forall_mem_cons.mpr ⟨⟨⟨_, _, _, _, pm_km0⟩, pm_IOk_of pm_ki0⟩, List.forall_mem_cons.mpr ⟨⟨⟨_, _, _, _, pm_km1⟩, pm_IOk_of pm_ki1⟩, List.forall_mem_cons.mpr ⟨⟨⟨_, _, _, _, pm_km2⟩, pm_IOk_of pm_ki2⟩, List.forall_mem_cons.mpr ⟨⟨⟨_, _, _, _, pm_km3⟩, pm_IOk_of pm_ki3⟩, List.forall_mem_cons.mpr ⟨⟨⟨_, _, _, _, pm_km4⟩, pm_IOk_of pm_ki4⟩, List.forall_mem_cons.mpr ⟨⟨⟨_, _, _, _, pm_km5⟩, pm_IOk_of pm_ki5⟩, List.forall_mem_cons.mpr ⟨⟨⟨_, _, _, _, pm_km6⟩, pm_IOk_of pm_ki6⟩, List.forall_mem_cons.mpr ⟨⟨⟨_, _, _, _, pm_km7⟩, pm_IOk_of pm_ki7⟩, List.forall_mem_cons.mpr ⟨⟨⟨_, _, _, _, pm_km8⟩, pm_IOk_of pm_ki8⟩, List.forall_mem_cons.mpr ⟨⟨⟨_, _, _, _, pm_km9⟩, pm_IOk_of pm_ki9⟩, List.forall_mem_cons.mpr ⟨⟨⟨_, _, _, _, pm_km10⟩, pm_IOk_of pm_ki10⟩, List.forall_mem_cons.mpr ⟨⟨⟨_, _, _, _, pm_km11⟩, pm_IOk_of pm_ki11⟩, List.forall_mem_cons.mpr ⟨⟨⟨_, _, _, _, pm_km12⟩, pm_IOk_of pm_ki12⟩, List.forall_mem_cons.mpr ⟨⟨⟨_, _, _, _, pm_km13⟩, pm_IOk_of pm_ki13⟩, List.forall_mem_cons.mpr ⟨⟨⟨_, _, _, _, pm_km14⟩, pm_IOk_of pm_ki14⟩, List.forall_mem_cons.mpr ⟨⟨⟨_, _, _, _, pm_km15⟩, pm_IOk_of pm_ki15⟩, fun _ h => absurd h List.not_mem_nil⟩⟩⟩⟩⟩⟩⟩⟩⟩⟩⟩⟩⟩⟩⟩⟩
theorem pm_oc1 : ∀ i ∈ [16, 17, 18, 19, 20, 21, 22, 23, 24, 25, 26, 27, 28, 29, 30, 31], pm_MOk i ∧ pm_IOk i := List.forall_mem_cons.mpr ⟨⟨⟨_, _, _, _, pm_km16⟩, pm_IOk_of pm_ki16⟩, List.forall_mem_cons.mpr ⟨⟨⟨_, _, _, _, pm_km17⟩, pm_IOk_of pm_ki17⟩, List.forall_mem_cons.mpr ⟨⟨⟨_, _, _, _, pm_km18⟩, pm_IOk_of pm_ki18⟩, List.forall_mem_cons.mpr ⟨⟨⟨_, _, _, _, pm_km19⟩, pm_IOk_of pm_ki19⟩, List.forall_mem_cons.mpr ⟨⟨⟨_, _, _, _, pm_km20⟩, pm_IOk_of pm_ki20⟩, List.forall_mem_cons.mpr ⟨⟨⟨_, _, _, _, pm_km21⟩, pm_IOk_of pm_ki21⟩, List.forall_mem_cons.mpr ⟨⟨⟨_, _, _, _, pm_km22⟩, pm_IOk_of pm_ki22⟩, List.forall_mem_cons.mpr ⟨⟨⟨_, _, _, _, pm_km23⟩, pm_IOk_of pm_ki23⟩, List.forall_mem_cons.mpr ⟨⟨⟨_, _, _, _, pm_km24⟩, pm_IOk_of pm_ki24⟩, List.forall_mem_cons.mpr ⟨⟨⟨_, _, _, _, pm_km25⟩, pm_IOk_of pm_ki25⟩, List.forall_mem_cons.mpr ⟨⟨⟨_, _, _, _, pm_km26⟩, pm_IOk_of pm_ki26⟩, List.forall_mem_cons.mpr ⟨⟨⟨_, _, _, _, pm_km27⟩, pm_IOk_of pm_ki27⟩, List.forall_mem_cons.mpr ⟨⟨⟨_, _, _, _, pm_km28⟩, pm_IOk_of pm_ki28⟩, List.forall_mem_cons.mpr ⟨⟨⟨_, _, _, _, pm_km29⟩, pm_IOk_of pm_ki29⟩, List.forall_mem_cons.mpr ⟨⟨⟨_, _, _, _, pm_km30⟩, pm_IOk_of pm_ki30⟩, List.forall_mem_cons.mpr ⟨⟨⟨_, _, _, _, pm_km31⟩, pm_IOk_of pm_ki31⟩, fun _ h => absurd h List.not_mem_nil⟩⟩⟩⟩⟩⟩⟩⟩⟩⟩⟩⟩⟩⟩⟩⟩
theorem pm_oc2 : ∀ i ∈ [32, 33, 34, 35, 36, 37, 38, 39, 40, 41, 42, 43, 44, 45, 46, 47], pm_MOk i ∧ pm_IOk i := List.forall_mem_cons.mpr ⟨⟨⟨_, _, _, _, pm_km32⟩, pm_IOk_of pm_ki32⟩, List.forall_mem_cons.mpr ⟨⟨⟨_, _, _, _, pm_km33⟩, pm_IOk_of pm_ki33⟩, List.forall_mem_cons.mpr ⟨⟨⟨_, _, _, _, pm_km34⟩, pm_IOk_of pm_ki34⟩, List.forall_mem_cons.mpr ⟨⟨⟨_, _, _, _, pm_km35⟩, pm_IOk_of pm_ki35⟩, List.forall_mem_cons.mpr ⟨⟨⟨_, _, _, _, pm_km36⟩, pm_IOk_of pm_ki36⟩, List.forall_mem_cons.mpr ⟨⟨⟨_, _, _, _, pm_km37⟩, pm_IOk_of pm_ki37⟩, List.forall_mem_cons.mpr ⟨⟨⟨_, _, _, _, pm_km38⟩, pm_IOk_of pm_ki38⟩, List.forall_mem_cons.mpr ⟨⟨⟨_, _, _, _, pm_km39⟩, pm_IOk_of pm_ki39⟩, List.forall_mem_cons.mpr ⟨⟨⟨_, _, _, _, pm_km40⟩, pm_IOk_of pm_ki40⟩, List.forall_mem_cons.mpr ⟨⟨⟨_, _, _, _, pm_km41⟩, pm_IOk_of pm_ki41⟩, List.forall_mem_cons.mpr ⟨⟨⟨_, _, _, _, pm_km42⟩, pm_IOk_of pm_ki42⟩, List.forall_mem_cons.mpr ⟨⟨⟨_, _, _, _, pm_km43⟩, pm_IOk_of pm_ki43⟩, List.forall_mem_cons.mpr ⟨⟨⟨_, _, _, _, pm_km44⟩, pm_IOk_of pm_ki44⟩, List.forall_mem_cons.mpr ⟨⟨⟨_, _, _, _, pm_km45⟩, pm_IOk_of pm_ki45⟩, List.forall_mem_cons.mpr ⟨⟨⟨_, _, _, _, pm_km46⟩, pm_IOk_of pm_ki46⟩, List.forall_mem_cons.mpr ⟨⟨⟨_, _, _, _, pm_km47⟩, pm_IOk_of pm_ki47⟩, fun _ h => absurd h List.not_mem_nil⟩⟩⟩⟩⟩⟩⟩⟩⟩⟩⟩⟩⟩⟩⟩⟩
theorem pm_oc3 : ∀ i ∈ [48, 49, 50, 51, 52, 53, 54, 55, 56, 57, 58, 59, 60, 61, 62, 63], pm_MOk i ∧ pm_IOk i := List.forall_mem_cons.mpr ⟨⟨⟨_, _, _, _, pm_km48⟩, pm_IOk_of pm_ki48⟩, List.forall_mem_cons.mpr ⟨⟨⟨_, _, _, _, pm_km49⟩, pm_IOk_of pm_ki49⟩, List.forall_mem_cons.mpr ⟨⟨⟨_, _, _, _, pm_km50⟩, pm_IOk_of pm_ki50⟩, List.forall_mem_cons.mpr ⟨⟨⟨_, _, _, _, pm_km51⟩, pm_IOk_of pm_ki51⟩, List.forall_mem_cons.mpr ⟨⟨⟨_, _, _, _, pm_km52⟩, pm_IOk_of pm_ki52⟩, List.forall_mem_cons.mpr ⟨⟨⟨_, _, _, _, pm_km53⟩, pm_IOk_of pm_ki53⟩, List.forall_mem_cons.mpr ⟨⟨⟨_, _, _, _, pm_km54⟩, pm_IOk_of pm_ki54⟩, List.forall_mem_cons.mpr ⟨⟨⟨_, _, _, _, pm_km55⟩, pm_IOk_of pm_ki55⟩, List.forall_mem_cons.mpr ⟨⟨⟨_, _, _, _, pm_km56⟩, pm_IOk_of pm_ki56⟩, List.forall_mem_cons.mpr ⟨⟨⟨_, _, _, _, pm_km57⟩, pm_IOk_of pm_ki57⟩, List.forall_mem_cons.mpr ⟨⟨⟨_, _, _, _, pm_km58⟩, pm_IOk_of pm_ki58⟩, List.forall_mem_cons.mpr ⟨⟨⟨_, _, _, _, pm_km59⟩, pm_IOk_of pm_ki59⟩, List.forall_mem_cons.mpr ⟨⟨⟨_, _, _, _, pm_km60⟩, pm_IOk_of pm_ki60⟩, List.forall_mem_cons.mpr ⟨⟨⟨_, _, _, _, pm_km61⟩, pm_IOk_of pm_ki61⟩, List.forall_mem_cons.mpr ⟨⟨⟨_, _, _, _, pm_km62⟩, pm_IOk_of pm_ki62⟩, List.forall_mem_cons.mpr ⟨⟨⟨_, _, _, _, pm_km63⟩, pm_IOk_of pm_ki63⟩, fun _ h => absurd h List.not_mem_nil⟩⟩⟩⟩⟩⟩⟩⟩⟩⟩⟩⟩⟩⟩⟩⟩
theorem pm_oc4 : ∀ i ∈ [64, 65, 66, 67, 68, 69, 70, 71, 72, 73, 74, 75, 76, 77, 78, 79], pm_MOk i ∧ pm_IOk i := List.forall_mem_cons.mpr ⟨⟨⟨_, _, _, _, pm_km64⟩, pm_IOk_of pm_ki64⟩, List.forall_mem_cons.mpr ⟨⟨⟨_, _, _, _, pm_km65⟩, pm_IOk_of pm_ki65⟩, List.forall_mem_cons.mpr ⟨⟨⟨_, _, _, _, pm_km66⟩, pm_IOk_of pm_ki66⟩, List.forall_mem_cons.mpr ⟨⟨⟨_, _, _, _, pm_km67⟩, pm_IOk_of pm_ki67⟩, List.forall_mem_cons.mpr ⟨⟨⟨_, _, _, _, pm_km68⟩, pm_IOk_of pm_ki68⟩, List.forall_mem_cons.mpr ⟨⟨⟨_, _, _, _, pm_km69⟩, pm_IOk_of pm_ki69⟩, List.forall_mem_cons.mpr ⟨⟨⟨_, _, _, _, pm_km70⟩, pm_IOk_of pm_ki70⟩, List.forall_mem_cons.mpr ⟨⟨⟨_, _, _, _, pm_km71⟩, pm_IOk_of pm_ki71⟩, List.forall_mem_cons.mpr ⟨⟨⟨_, _, _, _, pm_km72⟩, pm_IOk_of pm_ki72⟩, List.forall_mem_cons.mpr ⟨⟨⟨_, _, _, _, pm_km73⟩, pm_IOk_of pm_ki73⟩, List.forall_mem_cons.mpr ⟨⟨⟨_, _, _, _, pm_km74⟩, pm_IOk_of pm_ki74⟩, List.forall_mem_cons.mpr ⟨⟨⟨_, _, _, _, pm_km75⟩, pm_IOk_of pm_ki75⟩, List.forall_mem_cons.mpr ⟨⟨⟨_, _, _, _, pm_km76⟩, pm_IOk_of pm_ki76⟩, List.forall_mem_cons.mpr ⟨⟨⟨_, _, _, _, pm_km77⟩, pm_IOk_of pm_ki77⟩, List.forall_mem_cons.mpr ⟨⟨⟨_, _, _, _, pm_km78⟩, pm_IOk_of pm_ki78⟩, List.forall_mem_cons.mpr ⟨⟨⟨_, _, _, _, pm_km79⟩, pm_IOk_of pm_ki79⟩, fun _ h => absurd h List.not_mem_nil⟩⟩⟩⟩⟩⟩⟩⟩⟩⟩⟩⟩⟩⟩⟩⟩
theorem pm_oc5 : ∀ i ∈ [80, 81, 82, 83, 84, 85, 86, 87, 88, 89, 90, 91, 92, 93, 94, 95], pm_MOk i ∧ pm_IOk i := List.forall_mem_cons.mpr ⟨⟨⟨_, _, _, _, pm_km80⟩, pm_IOk_of pm_ki80⟩, List.forall_mem_cons.mpr ⟨⟨⟨_, _, _, _, pm_km81⟩, pm_IOk_of pm_ki81⟩, List.forall_mem_cons.mpr ⟨⟨⟨_, _, _, _, pm_km82⟩, pm_IOk_of pm_ki82⟩, List.forall_mem_cons.mpr ⟨⟨⟨_, _, _, _, pm_km83⟩, pm_IOk_of pm_ki83⟩, List.forall_mem_cons.mpr ⟨⟨⟨_, _, _, _, pm_km84⟩, pm_IOk_of pm_ki84⟩, List.forall_mem_cons.mpr ⟨⟨⟨_, _, _, _, pm_km85⟩, pm_IOk_of pm_ki85⟩, List.forall_mem_cons.mpr ⟨⟨⟨_, _, _, _, pm_km86⟩, pm_IOk_of pm_ki86⟩, List.forall_mem_cons.mpr ⟨⟨⟨_, _, _, _, pm_km87⟩, pm_IOk_of pm_ki87⟩, List.forall_mem_cons.mpr ⟨⟨⟨_, _, _, _, pm_km88⟩, pm_IOk_of pm_ki88⟩, List.forall_mem_cons.mpr ⟨⟨⟨_, _, _, _, pm_km89⟩, pm_IOk_of pm_ki89⟩, List.forall_mem_cons.mpr ⟨⟨⟨_, _, _, _, pm_km90⟩, pm_IOk_of pm_ki90⟩, List.forall_mem_cons.mpr ⟨⟨⟨_, _, _, _, pm_km91⟩, pm_IOk_of pm_ki91⟩, List.forall_mem_cons.mpr ⟨⟨⟨_, _, _, _, pm_km92⟩, pm_IOk_of pm_ki92⟩, List.forall_mem_cons.mpr ⟨⟨⟨_, _, _, _, pm_km93⟩, pm_IOk_of pm_ki93⟩, List.forall_mem_cons.mpr ⟨⟨⟨_, _, _, _, pm_km94⟩, pm_IOk_of pm_ki94⟩, List.forall_mem_cons.mpr ⟨⟨⟨_, _, _, _, pm_km95⟩, pm_IOk_of pm_ki95⟩, fun _ h => absurd h List.not_mem_nil⟩⟩⟩⟩⟩⟩⟩⟩⟩⟩⟩⟩⟩⟩⟩⟩
theorem pm_oc6 : ∀ i ∈ [96, 97, 98, 99, 100, 101, 102, 103, 104, 105, 106, 107, 108, 109, 110, 111], pm_MOk i ∧ pm_IOk i := List.forall_mem_cons.mpr ⟨⟨⟨_, _, _, _, pm_km96⟩, pm_IOk_of pm_ki96⟩, List.forall_mem_cons.mpr ⟨⟨⟨_, _, _, _, pm_km97⟩, pm_IOk_of pm_ki97⟩, List.forall_mem_cons.mpr ⟨⟨⟨_, _, _, _, pm_km98⟩, pm_IOk_of pm_ki98⟩, List.forall_mem_cons.mpr ⟨⟨⟨_, _, _, _, pm_km99⟩, pm_IOk_of pm_ki99⟩, List.forall_mem_cons.mpr ⟨⟨⟨_, _, _, _, pm_km100⟩, pm_IOk_of pm_ki100⟩, List.forall_mem_cons.mpr ⟨⟨⟨_, _, _, _, pm_km101⟩, pm_IOk_of pm_ki101⟩, List.forall_mem_cons.mpr ⟨⟨⟨_, _, _, _, pm_km102⟩, pm_IOk_of pm_ki102⟩, List.forall_mem_cons.mpr ⟨⟨⟨_, _, _, _, pm_km103⟩, pm_IOk_of pm_ki103⟩, List.forall_mem_cons.mpr ⟨⟨⟨_, _, _, _, pm_km104⟩, pm_IOk_of pm_ki104⟩, List.forall_mem_cons.mpr ⟨⟨⟨_, _, _, _, pm_km105⟩, pm_IOk_of pm_ki105⟩, List.forall_mem_cons.mpr ⟨⟨⟨_, _, _, _, pm_km106⟩, pm_IOk_of pm_ki106⟩, List.forall_mem_cons.mpr ⟨⟨⟨_, _, _, _, pm_km107⟩, pm_IOk_of pm_ki107⟩, List.forall_mem_cons.mpr ⟨⟨⟨_, _, _, _, pm_km108⟩, pm_IOk_of pm_ki108⟩, List.forall_mem_cons.mpr ⟨⟨⟨_, _, _, _, pm_km109⟩, pm_IOk_of pm_ki109⟩, List.forall_mem_cons.mpr ⟨⟨⟨_, _, _, _, pm_km110⟩, pm_IOk_of pm_ki110⟩, List.forall_mem_cons.mpr ⟨⟨⟨_, _, _, _, pm_km111⟩, pm_IOk_of pm_ki111⟩, fun _ h => absurd h List.not_mem_nil⟩⟩⟩⟩⟩⟩⟩⟩⟩⟩⟩⟩⟩⟩⟩⟩
theorem pm_oc7 : ∀ i ∈ [112, 113, 114, 115, 116, 117, 118, 119, 120, 121, 122, 123, 124, 125, 126, 127], pm_MOk i ∧ pm_IOk i := List.forall_mem_cons.mpr ⟨⟨⟨_, _, _, _, pm_km112⟩, pm_IOk_of pm_ki112⟩, List.forall_mem_cons.mpr ⟨⟨⟨_, _, _, _, pm_km113⟩, pm_IOk_of pm_ki113⟩, List.forall_mem_cons.mpr ⟨⟨⟨_, _, _, _, pm_km114⟩, pm_IOk_of pm_ki114⟩, List.forall_mem_cons.mpr ⟨⟨⟨_, _, _, _, pm_km115⟩, pm_IOk_of pm_ki115⟩, List.forall_mem_cons.mpr ⟨⟨⟨_, _, _, _, pm_km116⟩, pm_IOk_of pm_ki116⟩, List.forall_mem_cons.mpr ⟨⟨⟨_, _, _, _, pm_km117⟩, pm_IOk_of pm_ki117⟩, List.forall_mem_cons.mpr ⟨⟨⟨_, _, _, _, pm_km118⟩, pm_IOk_of pm_ki118⟩, List.forall_mem_cons.mpr ⟨⟨⟨_, _, _, _, pm_km119⟩, pm_IOk_of pm_ki119⟩, List.forall_mem_cons.mpr ⟨⟨⟨_, _, _, _, pm_km120⟩, pm_IOk_of pm_ki120⟩, List.forall_mem_cons.mpr ⟨⟨⟨_, _, _, _, pm_km121⟩, pm_IOk_of pm_ki121⟩, List.forall_mem_cons.mpr ⟨⟨⟨_, _, _, _, pm_km122⟩, pm_IOk_of pm_ki122⟩, List.forall_mem_cons.mpr ⟨⟨⟨_, _, _, _, pm_km123⟩, pm_IOk_of pm_ki123⟩, List.forall_mem_cons.mpr ⟨⟨⟨_, _, _, _, pm_km124⟩, pm_IOk_of pm_ki124⟩, List.forall_mem_cons.mpr ⟨⟨⟨_, _, _, _, pm_km125⟩, pm_IOk_of pm_ki125⟩, List.forall_mem_cons.mpr ⟨⟨⟨_, _, _, _, pm_km126⟩, pm_IOk_of pm_ki126⟩, List.forall_mem_cons.mpr ⟨⟨⟨_, _, _, _, pm_km127⟩, pm_IOk_of pm_ki127⟩, fun _ h => absurd h List.not_mem_nil⟩⟩⟩⟩⟩⟩⟩⟩⟩⟩⟩⟩⟩⟩⟩⟩
theorem pm_oc8 : ∀ i ∈ [128, 129, 130, 131, 132, 133, 134, 135, 136, 137, 138, 139, 140, 141, 142, 143], pm_MOk i ∧ pm_IOk i := List.forall_mem_cons.mpr ⟨⟨⟨_, _, _, _, pm_km128⟩, pm_IOk_of pm_ki128⟩, List.forall_mem_cons.mpr ⟨⟨⟨_, _, _, _, pm_km129⟩, pm_IOk_of pm_ki129⟩, List.forall_mem_cons.mpr ⟨⟨⟨_, _, _, _, pm_km130⟩, pm_IOk_of pm_ki130⟩, List.forall_mem_cons.mpr ⟨⟨⟨_, _, _, _, pm_km131⟩, pm_IOk_of pm_ki131⟩, List.forall_mem_cons.mpr ⟨⟨⟨_, _, _, _, pm_km132⟩, pm_IOk_of pm_ki132⟩, List.forall_mem_cons.mpr ⟨⟨⟨_, _, _, _, pm_km133⟩, pm_IOk_of pm_ki133⟩, List.forall_mem_cons.mpr ⟨⟨⟨_, _, _, _, pm_km134⟩, pm_IOk_of pm_ki134⟩, List.forall_mem_cons.mpr ⟨⟨⟨_, _, _, _, pm_km135⟩, pm_IOk_of pm_ki135⟩, List.forall_mem_cons.mpr ⟨⟨⟨_, _, _, _, pm_km136⟩, pm_IOk_of pm_ki136⟩, List.forall_mem_cons.mpr ⟨⟨⟨_, _, _, _, pm_km137⟩, pm_IOk_of pm_ki137⟩, List.forall_mem_cons.mpr ⟨⟨⟨_, _, _, _, pm_km138⟩, pm_IOk_of pm_ki138⟩, List.forall_mem_cons.mpr ⟨⟨⟨_, _, _, _, pm_km139⟩, pm_IOk_of pm_ki139⟩, List.forall_mem_cons.mpr ⟨⟨⟨_, _, _, _, pm_km140⟩, pm_IOk_of pm_ki140⟩, List.forall_mem_cons.mpr ⟨⟨⟨_, _, _, _, pm_km141⟩, pm_IOk_of pm_ki141⟩, List.forall_mem_cons.mpr ⟨⟨⟨_, _, _, _, pm_km142⟩, pm_IOk_of pm_ki142⟩, List.forall_mem_cons.mpr ⟨⟨⟨_, _, _, _, pm_km143⟩, pm_IOk_of pm_ki143⟩, fun _ h => absurd h List.not_mem_nil⟩⟩⟩⟩⟩⟩⟩⟩⟩⟩⟩⟩⟩⟩⟩⟩
theorem pm_oc9 : ∀ i ∈ [144, 145, 146, 147, 148, 149, 150, 151, 152, 153, 154, 155, 156, 157, 158, 159], pm_MOk i ∧ pm_IOk i := List.forall_mem_cons.mpr ⟨⟨⟨_, _, _, _, pm_km144⟩, pm_IOk_of pm_ki144⟩, List.forall_mem_cons.mpr ⟨⟨⟨_, _, _, _, pm_km145⟩, pm_IOk_of pm_ki145⟩, List.forall_mem_cons.mpr ⟨⟨⟨_, _, _, _, pm_km146⟩, pm_IOk_of pm_ki146⟩, List.forall_mem_cons.mpr ⟨⟨⟨_, _, _, _, pm_km147⟩, pm_IOk_of pm_ki147⟩, List.forall_mem_cons.mpr ⟨⟨⟨_, _, _, _, pm_km148⟩, pm_IOk_of pm_ki148⟩, List.forall_mem_cons.mpr ⟨⟨⟨_, _, _, _, pm_km149⟩, pm_IOk_of pm_ki149⟩, List.forall_mem_cons.mpr ⟨⟨⟨_, _, _, _, pm_km150⟩, pm_IOk_of pm_ki150⟩, List.forall_mem_cons.mpr ⟨⟨⟨_, _, _, _, pm_km151⟩, pm_IOk_of pm_ki151⟩, List.forall_mem_cons.mpr ⟨⟨⟨_, _, _, _, pm_km152⟩, pm_IOk_of pm_ki152⟩, List.forall_mem_cons.mpr ⟨⟨⟨_, _, _, _, pm_km153⟩, pm_IOk_of pm_ki153⟩, List.forall_mem_cons.mpr ⟨⟨⟨_, _, _, _, pm_km154⟩, pm_IOk_of pm_ki154⟩, List.forall_mem_cons.mpr ⟨⟨⟨_, _, _, _, pm_km155⟩, pm_IOk_of pm_ki155⟩, List.forall_mem_cons.mpr ⟨⟨⟨_, _, _, _, pm_km156⟩, pm_IOk_of pm_ki156⟩, List.forall_mem_cons.mpr ⟨⟨⟨_, _, _, _, pm_km157⟩, pm_IOk_of pm_ki157⟩, List.forall_mem_cons.mpr ⟨⟨⟨_, _, _, _, pm_km158⟩, pm_IOk_of pm_ki158⟩, List.forall_mem_cons.mpr ⟨⟨⟨_, _, _, _, pm_km159⟩, pm_IOk_of pm_ki159⟩, fun _ h => absurd h List.not_mem_nil⟩⟩⟩⟩⟩⟩⟩⟩⟩⟩⟩⟩⟩⟩⟩⟩
theorem pm_oc10 : ∀ i ∈ [160, 161, 162, 163, 164, 165, 166, 167, 168, 169, 170, 171, 172, 173, 174, 175], pm_MOk i ∧ pm_IOk i := List.forall_mem_cons.mpr ⟨⟨⟨_, _, _, _, pm_km160⟩, pm_IOk_of pm_ki160⟩, List.forall_mem_cons.mpr ⟨⟨⟨_, _, _, _, pm_km161⟩, pm_IOk_of pm_ki161⟩, List.forall_mem_cons.mpr ⟨⟨⟨_, _, _, _, pm_km162⟩, pm_IOk_of pm_ki162⟩, List.forall_mem_cons.mpr ⟨⟨⟨_, _, _, _, pm_km163⟩, pm_IOk_of pm_ki163⟩, List.forall_mem_cons.mpr ⟨⟨⟨_, _, _, _, pm_km164⟩, pm_IOk_of pm_ki164⟩, List.forall_mem_cons.mpr ⟨⟨⟨_, _, _, _, pm_km165⟩, pm_IOk_of pm_ki165⟩, List.forall_mem_cons.mpr ⟨⟨⟨_, _, _, _, pm_km166⟩, pm_IOk_of pm_ki166⟩, List.forall_mem_cons.mpr ⟨⟨⟨_, _, _, _, pm_km167⟩, pm_IOk_of pm_ki167⟩, List.forall_mem_cons.mpr ⟨⟨⟨_, _, _, _, pm_km168⟩, pm_IOk_of pm_ki168⟩, List.forall_mem_cons.mpr ⟨⟨⟨_, _, _, _, pm_km169⟩, pm_IOk_of pm_ki169⟩, List.forall_mem_cons.mpr ⟨⟨⟨_, _, _, _, pm_km170⟩, pm_IOk_of pm_ki170⟩, List.forall_mem_cons.mpr ⟨⟨⟨_, _, _, _, pm_km171⟩, pm_IOk_of pm_ki171⟩, List.forall_mem_cons.mpr ⟨⟨⟨_, _, _, _, pm_km172⟩, pm_IOk_of pm_ki172⟩, List.forall_mem_cons.mpr ⟨⟨⟨_, _, _, _, pm_km173⟩, pm_IOk_of pm_ki173⟩, List.forall_mem_cons.mpr ⟨⟨⟨_, _, _, _, pm_km174⟩, pm_IOk_of pm_ki174⟩, List.forall_mem_cons.mpr ⟨⟨⟨_, _, _, _, pm_km175⟩, pm_IOk_of pm_ki175⟩, fun _ h => absurd h List.not_mem_nil⟩⟩⟩⟩⟩⟩⟩⟩⟩⟩⟩⟩⟩⟩⟩⟩
theorem pm_oc11 : ∀ i ∈ [176, 177, 178, 179, 180, 181, 182, 183, 184, 185, 186, 187, 188, 189, 190, 191], pm_MOk i ∧ pm_IOk i := List.forall_mem_cons.mpr ⟨⟨⟨_, _, _, _, pm_km176⟩, pm_IOk_of pm_ki176⟩, List.forall_mem_cons.mpr ⟨⟨⟨_, _, _, _, pm_km177⟩, pm_IOk_of pm_ki177⟩, List.forall_mem_cons.mpr ⟨⟨⟨_, _, _, _, pm_km178⟩, pm_IOk_of pm_ki178⟩, List.forall_mem_cons.mpr ⟨⟨⟨_, _, _, _, pm_km179⟩, pm_IOk_of pm_ki179⟩, List.forall_mem_cons.mpr ⟨⟨⟨_, _, _, _, pm_km180⟩, pm_IOk_of pm_ki180⟩, List.forall_mem_cons.mpr ⟨⟨⟨_, _, _, _, pm_km181⟩, pm_IOk_of pm_ki181⟩, List.forall_mem_cons.mpr ⟨⟨⟨_, _, _, _, pm_km182⟩, pm_IOk_of pm_ki182⟩, List.forall_mem_cons.mpr ⟨⟨⟨_, _, _, _, pm_km183⟩, pm_IOk_of pm_ki183⟩, List.forall_mem_cons.mpr ⟨⟨⟨_, _, _, _, pm_km184⟩, pm_IOk_of pm_ki184⟩, List.forall_mem_cons.mpr ⟨⟨⟨_, _, _, _, pm_km185⟩, pm_IOk_of pm_ki185⟩, List.forall_mem_cons.mpr ⟨⟨⟨_, _, _, _, pm_km186⟩, pm_IOk_of pm_ki186⟩, List.forall_mem_cons.mpr ⟨⟨⟨_, _, _, _, pm_km187⟩, pm_IOk_of pm_ki187⟩, List.forall_mem_cons.mpr ⟨⟨⟨_, _, _, _, pm_km188⟩, pm_IOk_of pm_ki188⟩, List.forall_mem_cons.mpr ⟨⟨⟨_, _, _, _, pm_km189⟩, pm_IOk_of pm_ki189⟩, List.forall_mem_cons.mpr ⟨⟨⟨_, _, _, _, pm_km190⟩, pm_IOk_of pm_ki190⟩, List.forall_mem_cons.mpr ⟨⟨⟨_, _, _, _, pm_km191⟩, pm_IOk_of pm_ki191⟩, fun _ h => absurd h List.not_mem_nil⟩⟩⟩⟩⟩⟩⟩⟩⟩⟩⟩⟩⟩⟩⟩⟩
theorem pm_oc12 : ∀ i ∈ [192, 193, 194, 195, 196, 197, 198, 199, 200, 201, 202, 203, 204, 205, 206, 207], pm_MOk i ∧ pm_IOk i := List.forall_mem_cons.mpr ⟨⟨⟨_, _, _, _, pm_km192⟩, pm_IOk_of pm_ki192⟩, List.forall_mem_cons.mpr ⟨⟨⟨_, _, _, _, pm_km193⟩, pm_IOk_of pm_ki193⟩, List.forall_mem_cons.mpr ⟨⟨⟨_, _, _, _, pm_km194⟩, pm_IOk_of pm_ki194⟩, List.forall_mem_cons.mpr ⟨⟨⟨_, _, _, _, pm_km195⟩, pm_IOk_of pm_ki195⟩, List.forall_mem_cons.mpr ⟨⟨⟨_, _, _, _, pm_km196⟩, pm_IOk_of pm_ki196⟩, List.forall_mem_cons.mpr ⟨⟨⟨_, _, _, _, pm_km197⟩, pm_IOk_of pm_ki197⟩, List.forall_mem_cons.mpr ⟨⟨⟨_, _, _, _, pm_km198⟩, pm_IOk_of pm_ki198⟩, List.forall_mem_cons.mpr ⟨⟨⟨_, _, _, _, pm_km199⟩, pm_IOk_of pm_ki199⟩, List.forall_mem_cons.mpr ⟨⟨⟨_, _, _, _, pm_km200⟩, pm_IOk_of pm_ki200⟩, List.forall_mem_cons.mpr ⟨⟨⟨_, _, _, _, pm_km201⟩, pm_IOk_of pm_ki201⟩, List.forall_mem_cons.mpr ⟨⟨⟨_, _, _, _, pm_km202⟩, pm_IOk_of pm_ki202⟩, List.forall_mem_cons.mpr ⟨⟨⟨_, _, _, _, pm_km203⟩, pm_IOk_of pm_ki203⟩, List.forall_mem_cons.mpr ⟨⟨⟨_, _, _, _, pm_km204⟩, pm_IOk_of pm_ki204⟩, List.forall_mem_cons.mpr ⟨⟨⟨_, _, _, _, pm_km205⟩, pm_IOk_of pm_ki205⟩, List.forall_mem_cons.mpr ⟨⟨⟨_, _, _, _, pm_km206⟩, pm_IOk_of pm_ki206⟩, List.forall_mem_cons.mpr ⟨⟨⟨_, _, _, _, pm_km207⟩, pm_IOk_of pm_ki207⟩, fun _ h => absurd h List.not_mem_nil⟩⟩⟩⟩⟩⟩⟩⟩⟩⟩⟩⟩⟩⟩⟩⟩
theorem pm_oc13 : ∀ i ∈ [208, 209, 210, 211, 212, 213, 214, 215, 216, 217, 218, 219, 220, 221, 222, 223], pm_MOk i ∧ pm_IOk i := List.forall_mem_cons.mpr ⟨⟨⟨_, _, _, _, pm_km208⟩, pm_IOk_of pm_ki208⟩, List.forall_mem_cons.mpr ⟨⟨⟨_, _, _, _, pm_km209⟩, pm_IOk_of pm_ki209⟩, List.forall_mem_cons.mpr ⟨⟨⟨_, _, _, _, pm_km210⟩, pm_IOk_of pm_ki210⟩, List.forall_mem_cons.mpr ⟨⟨⟨_, _, _, _, pm_km211⟩, pm_IOk_of pm_ki211⟩, List.forall_mem_cons.mpr ⟨⟨⟨_, _, _, _, pm_km212⟩, pm_IOk_of pm_ki212⟩, List.forall_mem_cons.mpr ⟨⟨⟨_, _, _, _, pm_km213⟩, pm_IOk_of pm_ki213⟩, List.forall_mem_cons.mpr ⟨⟨⟨_, _, _, _, pm_km214⟩, pm_IOk_of pm_ki214⟩, List.forall_mem_cons.mpr ⟨⟨⟨_, _, _, _, pm_km215⟩, pm_IOk_of pm_ki215⟩, List.forall_mem_cons.mpr ⟨⟨⟨_, _, _, _, pm_km216⟩, pm_IOk_of pm_ki216⟩, List.forall_mem_cons.mpr ⟨⟨⟨_, _, _, _, pm_km217⟩, pm_IOk_of pm_ki217⟩, List.forall_mem_cons.mpr ⟨⟨⟨_, _, _, _, pm_km218⟩, pm_IOk_of pm_ki218⟩, List.forall_mem_cons.mpr ⟨⟨⟨_, _, _, _, pm_km219⟩, pm_IOk_of pm_ki219⟩, List.forall_mem_cons.mpr ⟨⟨⟨_, _, _, _, pm_km220⟩, pm_IOk_of pm_ki220⟩, List.forall_mem_cons.mpr ⟨⟨⟨_, _, _, _, pm_km221⟩, pm_IOk_of pm_ki221⟩, List.forall_mem_cons.mpr ⟨⟨⟨_, _, _, _, pm_km222⟩, pm_IOk_of pm_ki222⟩, List.forall_mem_cons.mpr ⟨⟨⟨_, _, _, _, pm_km223⟩, pm_IOk_of pm_ki223⟩, fun _ h => absurd h List.not_mem_nil⟩⟩⟩⟩⟩⟩⟩⟩⟩⟩⟩⟩⟩⟩⟩⟩
theorem pm_oc14 : ∀ i ∈ [224, 225, 226, 227, 228, 229, 230, 231, 232, 233, 234, 235, 236, 237, 238, 239], pm_MOk i ∧ pm_IOk i := List.forall_mem_cons.mpr ⟨⟨⟨_, _, _, _, pm_km224⟩, pm_IOk_of pm_ki224⟩, List.forall_mem_cons.mpr ⟨⟨⟨_, _, _, _, pm_km225⟩, pm_IOk_of pm_ki225⟩, List.forall_mem_cons.mpr ⟨⟨⟨_, _, _, _, pm_km226⟩, pm_IOk_of pm_ki226⟩, List.forall_mem_cons.mpr ⟨⟨⟨_, _, _, _, pm_km227⟩, pm_IOk_of pm_ki227⟩, List.forall_mem_cons.mpr ⟨⟨⟨_, _, _, _, pm_km228⟩, pm_IOk_of pm_ki228⟩, List.forall_mem_cons.mpr ⟨⟨⟨_, _, _, _, pm_km229⟩, pm_IOk_of pm_ki229⟩, List.forall_mem_cons.mpr ⟨⟨⟨_, _, _, _, pm_km230⟩, pm_IOk_of pm_ki230⟩, List.forall_mem_cons.mpr ⟨⟨⟨_, _, _, _, pm_km231⟩, pm_IOk_of pm_ki231⟩, List.forall_mem_cons.mpr ⟨⟨⟨_, _, _, _, pm_km232⟩, pm_IOk_of pm_ki232⟩, List.forall_mem_cons.mpr ⟨⟨⟨_, _, _, _, pm_km233⟩, pm_IOk_of pm_ki233⟩, List.forall_mem_cons.mpr ⟨⟨⟨_, _, _, _, pm_km234⟩, pm_IOk_of pm_ki234⟩, List.forall_mem_cons.mpr ⟨⟨⟨_, _, _, _, pm_km235⟩, pm_IOk_of pm_ki235⟩, List.forall_mem_cons.mpr ⟨⟨⟨_, _, _, _, pm_km236⟩, pm_IOk_of pm_ki236⟩, List.forall_mem_cons.mpr ⟨⟨⟨_, _, _, _, pm_km237⟩, pm_IOk_of pm_ki237⟩, List.forall_mem_cons.mpr ⟨⟨⟨_, _, _, _, pm_km238⟩, pm_IOk_of pm_ki238⟩, List.forall_mem_cons.mpr ⟨⟨⟨_, _, _, _, pm_km239⟩, pm_IOk_of pm_ki239⟩, fun _ h => absurd h List.not_mem_nil⟩⟩⟩⟩⟩⟩⟩⟩⟩⟩⟩⟩⟩⟩⟩⟩
theorem pm_oc15 : ∀ i ∈ [240], pm_MOk i ∧ pm_IOk i := List.forall_mem_cons.mpr ⟨⟨⟨_, _, _, _, pm_km240⟩, pm_IOk_of pm_ki240⟩, fun _ h => absurd h List.not_mem_nil⟩
theorem pm_all_ok : ∀ i, i < 241 → pm_MOk i ∧ pm_IOk i := by
  have h : ∀ i ∈ [0, 1, 2, 3, 4, 5, 6, 7, 8, 9, 10, 11, 12, 13, 14, 15] ++ ([16, 17, 18, 19, 20, 21, 22, 23, 24, 25, 26, 27, 28, 29, 30, 31] ++ ([32, 33, 34, 35, 36, 37, 38, 39, 40, 41, 42, 43, 44, 45, 46, 47] ++ ([48, 49, 50, 51, 52, 53, 54, 55, 56, 57, 58, 59, 60, 61, 62, 63] ++ ([64, 65, 66, 67, 68, 69, 70, 71, 72, 73, 74, 75, 76, 77, 78, 79] ++ ([80, 81, 82, 83, 84, 85, 86, 87, 88, 89, 90, 91, 92, 93, 94, 95] ++ ([96, 97, 98, 99, 100, 101, 102, 103, 104, 105, 106, 107, 108, 109, 110, 111] ++ ([112, 113, 114, 115, 116, 117, 118, 119, 120, 121, 122, 123, 124, 125, 126, 127] ++ ([128, 129, 130, 131, 132, 133, 134, 135, 136, 137, 138, 139, 140, 141, 142, 143] ++ ([144, 145, 146, 147, 148, 149, 150, 151, 152, 153, 154, 155, 156, 157, 158, 159] ++ ([160, 161, 162, 163, 164, 165, 166, 167, 168, 169, 170, 171, 172, 173, 174, 175] ++ ([176, 177, 178, 179, 180, 181, 182, 183, 184, 185, 186, 187, 188, 189, 190, 191] ++ ([192, 193, 194, 195, 196, 197, 198, 199, 200, 201, 202, 203, 204, 205, 206, 207] ++ ([208, 209, 210, 211, 212, 213, 214, 215, 216, 217, 218, 219, 220, 221, 222, 223] ++ ([224, 225, 226, 227, 228, 229, 230, 231, 232, 233, 234, 235, 236, 237, 238, 239] ++ ([240]))))))))))))))), pm_MOk i ∧ pm_IOk i := List.forall_mem_append.mpr ⟨pm_oc0, List.forall_mem_append.mpr ⟨pm_oc1, List.forall_mem_append.mpr ⟨pm_oc2, List.forall_mem_append.mpr ⟨pm_oc3, List.forall_mem_append.mpr ⟨pm_oc4, List.forall_mem_append.mpr ⟨pm_oc5, List.forall_mem_append.mpr ⟨pm_oc6, List.forall_mem_append.mpr ⟨pm_oc7, List.forall_mem_append.mpr ⟨pm_oc8, List.forall_mem_append.mpr ⟨pm_oc9, List.forall_mem_append.mpr ⟨pm_oc10, List.forall_mem_append.mpr ⟨pm_oc11, List.forall_mem_append.mpr ⟨pm_oc12, List.forall_mem_append.mpr ⟨pm_oc13, List.forall_mem_append.mpr ⟨pm_oc14, pm_oc15⟩⟩⟩⟩⟩⟩⟩⟩⟩⟩⟩⟩⟩⟩⟩
  intro i hi
  refine h i ?_
  have z : List.range 241 = [0, 1, 2, 3, 4, 5, 6, 7, 8, 9, 10, 11, 12, 13, 14, 15] ++ ([16, 17, 18, 19, 20, 21, 22, 23, 24, 25, 26, 27, 28, 29, 30, 31] ++ ([32, 33, 34, 35, 36, 37, 38, 39, 40, 41, 42, 43, 44, 45, 46, 47] ++ ([48, 49, 50, 51, 52, 53, 54, 55, 56, 57, 58, 59, 60, 61, 62, 63] ++ ([64, 65, 66, 67, 68, 69, 70, 71, 72, 73, 74, 75, 76, 77, 78, 79] ++ ([80, 81, 82, 83, 84, 85, 86, 87, 88, 89, 90, 91, 92, 93, 94, 95] ++ ([96, 97, 98, 99, 100, 101, 102, 103, 104, 105, 106, 107, 108, 109, 110, 111] ++ ([112, 113, 114, 115, 116, 117, 118, 119, 120, 121, 122, 123, 124, 125, 126, 127] ++ ([128, 129, 130, 131, 132, 133, 134, 135, 136, 137, 138, 139, 140, 141, 142, 143] ++ ([144, 145, 146, 147, 148, 149, 150, 151, 152, 153, 154, 155, 156, 157, 158, 159] ++ ([160, 161, 162, 163, 164, 165, 166, 167, 168, 169, 170, 171, 172, 173, 174, 175] ++ ([176, 177, 178, 179, 180, 181, 182, 183, 184, 185, 186, 187, 188, 189, 190, 191] ++ ([192, 193, 194, 195, 196, 197, 198, 199, 200, 201, 202, 203, 204, 205, 206, 207] ++ ([208, 209, 210, 211, 212, 213, 214, 215, 216, 217, 218, 219, 220, 221, 222, 223] ++ ([224, 225, 226, 227, 228, 229, 230, 231, 232, 233, 234, 235, 236, 237, 238, 239] ++ ([240]))))))))))))))) := by decide +kernel
  rw [← z]
  exact List.mem_range.mpr hi
/-- the words of a throw, but those that speak of the heap: all are in the tables -/
abbrev pm_nms : List String := ["java/lang/RuntimeException", "java/lang/Exception"]
def pm_aw (e ic : Nat) : List Cond := match e with | 5 => pm_at5 RX8 ic (pm_exn 5) | e => vx_atS RX8 ic (pm_exn e) pm_nms
theorem pm_aw_ne {e ic : Nat} (h : e ≠ 5) : pm_aw e ic = vx_atS RX8 ic (pm_exn e) pm_nms := by
  unfold pm_aw
  split
  · exact absurd rfl h
  · rfl
theorem pm_tw0 : (pm_aw 0 (pm_ick 0).2).all (fun w => lw_tbl.contains w && (goodWord w || pm_isn w) && vx_ot w) = true := by decide +kernel
theorem pm_tw1 : (pm_aw 1 (pm_ick 1).2).all (fun w => lw_tbl.contains w && (goodWord w || pm_isn w) && vx_ot w) = true := by decide +kernel
theorem pm_tw2 : (pm_aw 2 (pm_ick 2).2).all (fun w => lw_tbl.contains w && (goodWord w || pm_isn w) && vx_ot w) = true := by decide +kernel
theorem pm_tw3 : (pm_aw 3 (pm_ick 3).2).all (fun w => lw_tbl.contains w && (goodWord w || pm_isn w) && vx_ot w) = true := by decide +kernel
theorem pm_tw4 : (pm_aw 4 (pm_ick 4).2).all (fun w => lw_tbl.contains w && (goodWord w || pm_isn w) && vx_ot w) = true := by decide +kernel
theorem pm_tw5 : (pm_aw 5 (pm_ick 5).2).all (fun w => lw_tbl.contains w && (goodWord w || pm_isn w) && vx_ot w) = true := by decide +kernel
theorem pm_tw : ∀ e, e < 6 → (pm_aw e (pm_ick e).2).all (fun w => lw_tbl.contains w && (goodWord w || pm_isn w) && vx_ot w) = true
  | 0, _ => pm_tw0 | 1, _ => pm_tw1 | 2, _ => pm_tw2 | 3, _ => pm_tw3 | 4, _ => pm_tw4 | 5, _ => pm_tw5
  | e + 6, h => absurd h (by omega)
theorem pm_tl : ∀ e, e < 6 → Cond.classLink RX8 (pm_ick e).1 (pm_exn e) ∈ pm_gw ∧ Cond.initialized (pm_exn e) ∈ pm_gw ∧ Bundle.fit (pm_exn e) = true ∧ vx_ot (Cond.classLink RX8 (pm_ick e).1 (pm_exn e)) = true ∧ vx_ot (Cond.initialized (pm_exn e)) = true := by decide +kernel
theorem pm_fitn : ∀ n ∈ pm_nms, Bundle.fit n = true := by decide +kernel
theorem pm_ll_none {ad : Nat → Nat} : ∀ {n i : Nat}, pm_ll ad i (List.replicate n none) = []
  | 0, _ => rfl
  | n + 1, i => by
    rw [List.replicate_succ, pm_ll]
    exact pm_ll_none
theorem pm_lc_arg {ad : Nat → Nat} {q : Nat × Value} : ∀ {as : List pm_V} {n i : Nat}, q ∈ pm_ll ad i (pm_lc n as) → q ∈ lv_args i (as.map (pm_val ad))
  | [], n, i, h => by
    rw [pm_lc, pm_ll_none] at h
    cases h
  | v :: vs, n, i, h => by
    rw [List.map_cons, lv_args]
    unfold pm_lc at h
    cases hc : pm_c2 v with
    | true =>
      rw [hc] at h
      have h : q ∈ pm_ll ad i (some v :: none :: pm_lc (n - 2) vs) := h
      rw [pm_ll, pm_ll] at h
      rw [if_pos ((pm_cat v).1.mpr hc)]
      rcases List.mem_cons.mp h with h | h
      · rw [h]; exact List.mem_cons_self
      · exact List.mem_cons_of_mem _ (pm_lc_arg h)
    | false =>
      rw [hc] at h
      have h : q ∈ pm_ll ad i (some v :: pm_lc (n - 1) vs) := h
      rw [pm_ll] at h
      rw [if_neg (fun z => by rw [(pm_cat v).1.mp z] at hc; cases hc)]
      rcases List.mem_cons.mp h with h | h
      · rw [h]; exact List.mem_cons_self
      · exact List.mem_cons_of_mem _ (pm_lc_arg h)
theorem pm_lc_mem {v : pm_V} : ∀ {as : List pm_V} {n j : Nat}, pm_ld (pm_lc n as) j = some v → v ∈ as
  | [], n, j, h => by
    exfalso
    unfold pm_lc at h
    revert j
    induction n with
    | zero => intro j h; cases h
    | succ n ih =>
      intro j h
      rw [List.replicate_succ] at h
      cases j with
      | zero => cases h
      | succ j => exact @ih j h
  | w :: vs, n, j, h => by
    unfold pm_lc at h
    cases hc : pm_c2 w with
    | true =>
      rw [hc] at h
      have h : pm_ld (some w :: none :: pm_lc (n - 2) vs) j = some v := h
      match j, h with
      | 0, h =>
        have h : some w = some v := h
        cases h
        exact List.mem_cons_self
      | 1, h => cases h
      | j + 2, h => exact List.mem_cons_of_mem _ (pm_lc_mem (n := n - 2) (j := j) h)
    | false =>
      rw [hc] at h
      have h : pm_ld (some w :: pm_lc (n - 1) vs) j = some v := h
      match j, h with
      | 0, h =>
        have h : some w = some v := h
        cases h
        exact List.mem_cons_self
      | j + 1, h => exact List.mem_cons_of_mem _ (pm_lc_mem (n := n - 1) (j := j) h)
theorem pm_wl_len {ad : Nat → Nat} : ∀ {as : List pm_V}, (lg_sl (as.map (pm_val ad))).length = pm_wl as
  | [] => rfl
  | v :: vs => by
    rw [List.map_cons]
    show (List.flatMap _ (pm_val ad v :: _)).length = _
    rw [List.flatMap_cons, List.length_append]
    have ih : (lg_sl (vs.map (pm_val ad))).length = pm_wl vs := pm_wl_len
    unfold pm_wl
    have h1 : (if (pm_val ad v).category = 2 then [Slot.val (pm_val ad v), .second] else [Slot.val (pm_val ad v)]).length = bif pm_c2 v then 2 else 1 := by
      rcases v with x | ⟨κ, q⟩ | x | x | x <;> rfl
    rw [h1]
    exact congrArg _ ih
set_option maxHeartbeats 4000000 in
set_option maxRecDepth 100000 in
/-- EVERY METHOD: what a run of the pure machine says of it, holds of it -/
theorem pm_sound {l : Launch} (hl0 : l.stackTraces = false) (D : va_G) (AC : Nat → ClassId) : ∀ (d mi : Nat) (as : List pm_V) (me : pm_Me) (Qr : Option pm_V → pm_Me → Prop) (Qx : Nat → pm_Me → Prop), mi < 241 → (pm_hb mi = true → ∀ en me', ¬ Qx en me') → pm_run d mi as me Qr Qx → pm_Met l D AC d mi as me Qr Qx
  | 0, _, _, _, _, _, _, _, h => h.elim
  | d + 1, mi, as, me, Qr, Qx, hmi, hQh, h => by
    obtain ⟨⟨p1, p2, p3, p4, hmo⟩, hIO⟩ := pm_all_ok mi hmi
    obtain ⟨m1, m2, m3, m4, m5, m6, m7, m8⟩ := pm_okM_spec hmo
    have h : (bif Nat.ble (pm_wl as) (pm_ml mi) then pm_wp (pm_mc mi) (pm_ms mi) (pm_stp (pm_cd mi) (pm_hd mi) (pm_mc mi) (pm_ms mi) pm_mc pm_ms pm_kc (pm_run d) Qr Qx) (0, pm_lc (pm_ml mi) as, [], me, 0, 0) else False) := h
    obtain ⟨hwl, h⟩ := pm_bif h
    have hwl := Nat.le_of_ble_eq_true hwl
    intro ad sz hI hasok
    have body : ∀ (p : Program) (e : Env) (s : State) (m : MethodId) (args : Array Value) (below : List Frame) (meth : Method) (c : Code) (s₁ : State), BodyLoose p l (pm_y mi) (headSpec (pm_cw mi :: pm_gw) (pm_rm (d + 1) mi)) (pm_b mi) (pm_ml mi) (pm_rt mi) e s m args below meth c s₁ → c.maxLocals = pm_ml mi → (pm_hb mi = false → ∀ x ∈ c.exceptionTable.toList, False) → (pm_hb mi = true → c.exceptionTable.toList = tableOf (pm_hh mi)) → pm_Pc D AC ad me as sz args s →
        W p l e (headSpec (pm_cw mi :: pm_gw) (pm_rm (d + 1) mi)).room s m args below meth c s.heap [] 0 0 (vx_MQ below (pm_Qc D AC ad me sz Qr) (pm_XC D AC ad me sz Qx) args s (pm_mc mi) (pm_ms mi) (va_A (pm_ws AC ad me) sz)) (entryFrame m args (pm_ml mi)) := by
      intro p e s m args below meth c s₁ B hml hnt htab hv
      obtain ⟨rfl, hsz, hP, hD0, hKx, hZx⟩ := hv
      subst hsz
      have hx := B.exec
      have hb := B.bytes
      have hr := B.returns
      have hts0 := atoms_spec (ws := pm_cw mi :: pm_gw) B.pre
      have hts : ∀ w ∈ pm_gw, w.before (as.map (pm_val ad)).toArray s = true := fun w hw => hts0 w (List.mem_cons_of_mem _ hw)
      have hown : s.vm.findClass (pm_ow mi) = some m.cls := by
        rw [← m5]
        exact findClass_of_methodNamed B.named
      have hlocks := B.notSynchronized
      have hnm : meth.name = (pm_y mi).name := (name_of_methodNamed B.named B.method).1
      have hA : ∀ q : Nat, s.heap.size ≤ q → va_A (pm_ws AC ad me) s.heap.size q := fun q hq => Or.inr hq
      have hb00 : pm_bs (me.1.1, me.1.2.1, ad) ad me.1.1 me.1.2.1 := ⟨Nat.le_refl _, fun _ _ => ⟨rfl, rfl⟩, rfl⟩
      have hlv := lv_entry (as.map (pm_val ad)) (n := pm_ml mi) (by rw [pm_wl_len]; exact hwl)
      rw [lg_entry_eq]
      generalize (lg_sl (as.map (pm_val ad)) ++ List.replicate (pm_ml mi - (lg_sl (as.map (pm_val ad))).length) Slot.unset).toArray = ls at hlv ⊢
      have hlv2 : lv_has ls (pm_ml mi) (pm_ll ad 0 (pm_lc (pm_ml mi) as)) := pm_lv_weak hlv (fun q hq => pm_lc_arg hq)
      have hrel : pm_Rel s D AC (va_A (pm_ws AC ad me) s.heap.size) (pm_ml mi) false me.2 (me.1.1, me.1.2.1, ad) ad s.heap [] ls (pm_lc (pm_ml mi) as) [] me := ⟨hP, hD0.self, hI, va_S.rf, hlv2, fun j v hj => hasok v (pm_lc_mem hj), fun v hv => (by cases hv), fun _ _ => rfl, hb00⟩
      have key := pm_body (p := p) (l := l) (e := e) (R := (headSpec (pm_cw mi :: pm_gw) (pm_rm (d + 1) mi)).room) (s := s) (m := m) (args := (as.map (pm_val ad)).toArray) (below := below) (meth := meth) (c := c) (Q := vx_MQ below (pm_Qc D AC ad me s.heap.size Qr) (pm_XC D AC ad me s.heap.size Qx) (as.map (pm_val ad)).toArray s (pm_mc mi) (pm_ms mi) (va_A (pm_ws AC ad me) s.heap.size)) (D := D) (AC := AC) (A := va_A (pm_ws AC ad me) s.heap.size) (fl := false) (M0 := me.2) (bs := (me.1.1, me.1.2.1, ad)) (d := d) (mi := mi) (cal := pm_run d) (Qr := Qr) (Qx := Qx) (S := (0, pm_lc (pm_ml mi) as, [], me, 0, 0))
        hx hb hml hown hts hKx hA hZx (by show d + 11 ≤ d + 1 + 10; omega) (Nat.le_refl _) (fun a ha => (pm_all_ok a ha).1) htab (fun z => hnm.trans z) (fun z => by cases z) (fun pc hp => pm_IOk_at hIO hp)
        (fun a as' me' Qr' Qx' ha hq hrun => pm_sound hl0 D AC d a as' me' Qr' Qx' ha hq hrun) (fun z => by omega) hQh (fun _ => hmi) ?_ ?_ ?_ h
      · exact key hIO.2 (Nat.zero_le _) (Nat.zero_le _) ad s.heap [] ls hrel
      · -- returns
        intro pc L r me1 c0 t0 i hrti hd hQ hpc hlc hlt ad1 H locs ls1 hr1
        obtain ⟨hP1, hD1, hI1, hS1, hl1, hL1, hst1, hM1, hb1⟩ := hr1
        have hq : ∀ t : State, t.heap = H → pm_Qc D AC ad me s.heap.size Qr (as.map (pm_val ad)).toArray s (.returned (r.map (pm_val ad1))) t := fun t ht => ⟨⟨r, ad1, me1, rfl, hQ, fun v hv => hst1 v (by rw [hv]; exact List.mem_cons_self), by rw [ht]; exact ⟨hP1, hD1, hI1, hb1, hM1⟩⟩, hS1.F ht⟩
        refine vx_ret (W.widen (k := pm_mc mi) (n := pm_ms mi) hlc hlt ?_)
        rcases r with _ | x | ⟨κ, q⟩ | x | x | x
        · obtain ⟨rfl, hrt⟩ := hrti
          exact W.vret hx hb (hr.trans hrt) (fun t ht _ => hq t ht) hS1.2.2 hd hlocks
        · obtain ⟨rfl, hrt⟩ := hrti
          rcases hrt with hrt | ⟨hrt, h01⟩
          · exact W.iret hx hb (hr.trans hrt) (fun t ht _ => hq t ht) hS1.2.2 hd hlocks
          · exact W.zret hx hb (hr.trans hrt) (pm_narrow_z h01).1 (fun t ht _ => hq t ht) hS1.2.2 hd hlocks
        · exact hrti.elim
        · exact hrti.elim
        · obtain ⟨rfl, hrt⟩ := hrti
          exact W.fret hx hb (hr.trans hrt) (fun t ht _ => hq t ht) hS1.2.2 hd hlocks
        · obtain ⟨rfl, hrt⟩ := hrti
          exact W.dret hx hb (hr.trans hrt) (fun t ht _ => hq t ht) hS1.2.2 hd hlocks
      · -- throws
        intro pc L st me1 c0 t0 a pl hT hc1 ht1 hst8 hQ hpc hlc hlt ad1 H locs ls1 hr1
        obtain ⟨hP1, hD1, hI1, hS1, hl1, hL1, hst1, hM1, hb1⟩ := hr1
        unfold pm_okT at hT
        split at hT
        · rename_i ik is ic w tx htx
          simp only [Bool.and_eq_true, decide_eq_true_eq] at hT
          obtain ⟨⟨⟨⟨⟨⟨q1, q2⟩, q3⟩, q4⟩, q5⟩, q6⟩, q7⟩ := hT
          obtain ⟨pl2, hok2⟩ := pm_IOk_at hIO hpc
          have hd0 : decode (pm_b mi) pc = .ok (.new ik, 3) := by
            unfold pm_okI at hok2
            rw [q5] at hok2
            simp only [Bool.and_eq_true, decide_eq_true_eq] at hok2
            exact hok2.1
          rw [q1] at hown
          obtain ⟨t1, t2, t3, t4, t5⟩ := pm_tl a q3
          have hick1 : (pm_ick a).1 = ik := by rw [q2]
          have hick2 : (pm_ick a).2 = ic := by rw [q2]
          rw [hick1] at t1 t4
          have htw := pm_tw a q3
          rw [hick2] at htw
          obtain ⟨sa, hstr⟩ := hKx.2.2.2.1 (is, tx) q4
          have hat : ∀ w ∈ pm_aw a ic, w.before (as.map (pm_val ad)).toArray s = true := by
            intro w hw
            have z := List.all_eq_true.mp htw w hw
            simp only [Bool.and_eq_true, Bool.or_eq_true] at z
            rcases z.1.2 with z2 | z2
            · exact hts w (List.mem_filter.mpr ⟨List.contains_iff_mem.mp z.1.1, z2⟩)
            · have z3 := hKx.2.2.1 w (List.mem_filter.mpr ⟨List.contains_iff_mem.mp z.1.1, z2⟩)
              have z4 : w.onTables = true := by cases w <;> first | rfl | cases z2
              exact va_Nw.use z4 z3
          have hgood : ∀ w ∈ Cond.classLink RX8 ik (pm_exn a) :: Cond.initialized (pm_exn a) :: pm_aw a ic, vx_ot w = true := by
            intro w hw
            rcases List.mem_cons.mp hw with rfl | hw
            · exact t4
            · rcases List.mem_cons.mp hw with rfl | hw
              · exact t5
              · have z := List.all_eq_true.mp htw w hw
                simp only [Bool.and_eq_true] at z
                exact z.2
          have hhb : pm_hb mi = false := by
            cases hq : pm_hb mi
            · rfl
            · exact absurd hQ (hQh hq a me1)
          have hout : ∀ (n : Nat), ∀ x ∈ c.exceptionTable.toList, covers x n = false := fun n x hx9 => (hnt hhb x hx9).elim
          have hXC : ∀ t : State, s.vm.Alike t.vm → H.size ≤ t.heap.size → (∀ q : Nat, q < H.size → t.heap[q]? = H[q]?) → pm_XC D AC ad me s.heap.size Qx (pm_exn a) s t := by
            intro t _ hz hk
            refine ⟨⟨a, ad1, me1, q3, rfl, hQ, ⟨hP1.kept (fun k q hk9 => hk q.1 ((hP1 k q hk9).lt)), hD1, hI1, hb1, hM1⟩⟩, Nat.le_trans hS1.1 hz, fun q h1 h2 => (hk q (Nat.lt_of_lt_of_le h1 hS1.1)).trans (hS1.2.1 q h1 h2)⟩
          have hfr : pm_nms.length + 3 < (headSpec (pm_cw mi :: pm_gw) (pm_rm (d + 1) mi)).room.frames := by show 2 + 3 < d + 1 + 10; omega
          have hlo : ((st.map (pm_val ad1)).map fun v => v.category).sum + (13 * (pm_nms.length + 1) + 43) ≤ (headSpec (pm_cw mi :: pm_gw) (pm_rm (d + 1) mi)).room.locals := by
            rw [pm_cats (ad' := fun _ => 0)]
            have z := pm_sum4 (st := st) (ad := fun _ => 0)
            show _ + (13 * (2 + 1) + 43) ≤ 40 * (d + 1) + 200
            omega
          cases w with
          | true =>
            simp only [cond_true, Bool.and_eq_true, decide_eq_true_eq] at q7
            by_cases ha5 : a = 5
            · subst ha5
              exact pm_throw5W hx hb hl0 hown t3 (hts _ t1) (hts _ t2) hstr hat hgood hZx.1 hZx.2 hS1 (hl1.1.trans hml.symm) hd0 q6 q7.1.1 q7.1.2 q7.2 (hout _) hfr hlo hc1 ht1 hlocks hXC hS1.2.2 hc1 ht1
            · rw [pm_aw_ne ha5] at hat hgood
              exact vx_throwSW hx hb hl0 hown t3 pm_fitn (hts _ t1) (hts _ t2) hstr hat hgood hZx.1 hZx.2 hS1 (hl1.1.trans hml.symm) hd0 q6 q7.1.1 q7.1.2 q7.2 (hout _) hfr hlo hc1 ht1 hlocks hXC hS1.2.2 hc1 ht1
          | false =>
            simp only [cond_false, Bool.and_eq_true, decide_eq_true_eq] at q7
            by_cases ha5 : a = 5
            · subst ha5
              exact pm_throw5 hx hb hl0 hown t3 (hts _ t1) (hts _ t2) hstr hat hgood hZx.1 hZx.2 hS1 (hl1.1.trans hml.symm) hd0 q6 q7.1.1 q7.1.2 q7.2 (hout _) hfr hlo hc1 ht1 hlocks hXC hS1.2.2 hc1 ht1
            · rw [pm_aw_ne ha5] at hat hgood
              exact vx_throwS hx hb hl0 hown t3 pm_fitn (hts _ t1) (hts _ t2) hstr hat hgood hZx.1 hZx.2 hS1 (hl1.1.trans hml.symm) hd0 q6 q7.1.1 q7.1.2 q7.2 (hout _) hfr hlo hc1 ht1 hlocks hXC hS1.2.2 hc1 ht1
        · cases hT
      · -- what a callee threw goes on
        intro pc L st en me1 c0 t0 hen hhb hQ hlc hlt ad1 H locs ls1 q ce hr1 hce hcv hcl
        obtain ⟨hP1, hD1, hI1, hS1, hl1, hL1, hst1, hM1, hb1⟩ := hr1
        exact vx_out (fun x hx9 => (hnt hhb x hx9).elim) hlocks hce hcv hcl (fun t ht _ => ⟨⟨en, ad1, me1, hen, rfl, hQ, by rw [ht]; exact ⟨hP1, hD1, hI1, hb1, hM1⟩⟩, hS1.F ht⟩) hS1.2.2 hlc hlt
    cases hhb : pm_hb mi with
    | false =>
      have hcw : pm_cw mi = Cond.code (pm_y mi) (pm_b mi) (pm_ml mi) (pm_rt mi) := by unfold pm_cw; rw [hhb]; rfl
      exact vx_ofW (cc := pm_b mi) (maxL := pm_ml mi) (ret := pm_rt mi) m7 (by rw [hcw]) (fun p e s m args below meth c s₁ B hml hnt hv => body p e s m args below meth c s₁ B hml (fun _ => hnt) (fun z => by rw [hhb] at z; cases z) hv)
    | true =>
      have hcw : pm_cw mi = Cond.codeWith (pm_y mi) (pm_b mi) (pm_ml mi) (pm_rt mi) (pm_hh mi) := by unfold pm_cw; rw [hhb]; rfl
      refine vx_ofWH (cc := pm_b mi) (maxL := pm_ml mi) (ret := pm_rt mi) (hh := pm_hh mi) m7 (by rw [hcw]) (fun p e s m args below meth c s₁ B hml hv => body p e s m args below meth c s₁ B hml (fun z => by rw [hhb] at z; cases z) (fun _ => ?_) hv)
      have hts0 := atoms_spec (ws := pm_cw mi :: pm_gw) B.pre
      have z := hts0 _ List.mem_cons_self
      rw [hcw] at z
      exact vx_table (x := pm_y mi) B z
