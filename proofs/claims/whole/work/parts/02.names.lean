def R_H : String := "HamperByWeather"
def R_Dia : String := "HamperByWeather$Diary"
def R_Fld : String := "HamperByWeather$Fields"
def R_Frc : String := "HamperByWeather$Fraction"
def R_Har : String := "HamperByWeather$Harvest"
def R_Kin : String := "HamperByWeather$Kinds"
def R_Let : String := "HamperByWeather$Letters"
def R_Num : String := "HamperByWeather$Numbers"
def R_Set : String := "HamperByWeather$Sets"
def R_Sta : String := "HamperByWeather$State"
def R_Stp : String := "HamperByWeather$Step"
def R_Sps : String := "HamperByWeather$Steps"
def R_M : String := "HamperByWeatherModel"
def R_Jint : String := "java/lang/Integer"
def R_Jlong : String := "java/lang/Long"
def F_H : u_T := fun k => match k with
  | 0 => ("HamperByWeather", "now", "LHamperByWeather$State;", true)
  | 1 => ("HamperByWeather", "kept", "LHamperByWeather$State;", true)
  | 2 => ("HamperByWeather", "trial", "LHamperByWeather$State;", true)
  | 3 => ("HamperByWeather", "hasKept", "Z", false)
  | 4 => ("HamperByWeather", "steps", "LHamperByWeather$Steps;", true)
  | 5 => ("HamperByWeather", "letters", "LHamperByWeather$Letters;", true)
  | 6 => ("HamperByWeather", "numbers", "LHamperByWeather$Numbers;", true)
  | 7 => ("HamperByWeather", "harvest", "LHamperByWeather$Harvest;", true)
  | 8 => ("HamperByWeather", "fraction", "LHamperByWeather$Fraction;", true)
  | _ => ("HamperByWeather", "refusals", "[I", true)
def t_H : Nat → FieldType := fun k => match k with
  | 0 => .object "HamperByWeather$State"
  | 1 => .object "HamperByWeather$State"
  | 2 => .object "HamperByWeather$State"
  | 3 => .boolean
  | 4 => .object "HamperByWeather$Steps"
  | 5 => .object "HamperByWeather$Letters"
  | 6 => .object "HamperByWeather$Numbers"
  | 7 => .object "HamperByWeather$Harvest"
  | 8 => .object "HamperByWeather$Fraction"
  | _ => .array .int
set_option maxRecDepth 20000 in
theorem n_H : ∀ a, a < 10 → ∀ b, b < 10 → a ≠ b → (F_H a).2.1 ≠ (F_H b).2.1 := by decide +kernel
set_option maxRecDepth 20000 in
theorem t_H_ok : ∀ k, k < 10 → parseFieldDescriptor (F_H k).2.2.1 = some (t_H k) := by decide +kernel
def lw_g : List Cond := lw_tbl.filter goodWord
theorem q_at {i : Nat} {w : Cond} (h : lw_tbl[i]? = some w) (hg : goodWord w = true) : w ∈ lw_g := List.mem_filter.mpr ⟨List.mem_of_getElem? h, hg⟩
set_option maxRecDepth 20000 in
theorem i_H : ∀ w ∈ u_ws R_H F_H 10, w ∈ lw_g := by
  intro w hw
  obtain ⟨k, hk, rfl⟩ := List.mem_map.mp hw
  have hk := List.mem_range.mp hk
  match k, hk with
  | 0, _ => exact q_at (i := 280) (by decide +kernel) rfl
  | 1, _ => exact q_at (i := 282) (by decide +kernel) rfl
  | 2, _ => exact q_at (i := 284) (by decide +kernel) rfl
  | 3, _ => exact q_at (i := 286) (by decide +kernel) rfl
  | 4, _ => exact q_at (i := 288) (by decide +kernel) rfl
  | 5, _ => exact q_at (i := 290) (by decide +kernel) rfl
  | 6, _ => exact q_at (i := 292) (by decide +kernel) rfl
  | 7, _ => exact q_at (i := 294) (by decide +kernel) rfl
  | 8, _ => exact q_at (i := 296) (by decide +kernel) rfl
  | 9, _ => exact q_at (i := 298) (by decide +kernel) rfl
  | k + 10, h => exact absurd h (by omega)
def F_Sta : u_T := fun k => match k with
  | 0 => ("HamperByWeather$State", "weights", "[I", true)
  | 1 => ("HamperByWeather$State", "kinds", "[I", true)
  | 2 => ("HamperByWeather$State", "figures", "[I", true)
  | 3 => ("HamperByWeather$State", "goes", "[I", true)
  | 4 => ("HamperByWeather$State", "things", "I", false)
  | 5 => ("HamperByWeather$State", "hampers", "[I", true)
  | 6 => ("HamperByWeather$State", "days", "I", false)
  | 7 => ("HamperByWeather$State", "fields", "LHamperByWeather$Fields;", true)
  | _ => ("HamperByWeather$State", "done", "I", false)
def t_Sta : Nat → FieldType := fun k => match k with
  | 0 => .array .int
  | 1 => .array .int
  | 2 => .array .int
  | 3 => .array .int
  | 4 => .int
  | 5 => .array .int
  | 6 => .int
  | 7 => .object "HamperByWeather$Fields"
  | _ => .int
set_option maxRecDepth 20000 in
theorem n_Sta : ∀ a, a < 9 → ∀ b, b < 9 → a ≠ b → (F_Sta a).2.1 ≠ (F_Sta b).2.1 := by decide +kernel
set_option maxRecDepth 20000 in
theorem t_Sta_ok : ∀ k, k < 9 → parseFieldDescriptor (F_Sta k).2.2.1 = some (t_Sta k) := by decide +kernel
set_option maxRecDepth 20000 in
theorem i_Sta : ∀ w ∈ u_ws R_Sta F_Sta 9, w ∈ lw_g := by
  intro w hw
  obtain ⟨k, hk, rfl⟩ := List.mem_map.mp hw
  have hk := List.mem_range.mp hk
  match k, hk with
  | 0, _ => exact q_at (i := 127) (by decide +kernel) rfl
  | 1, _ => exact q_at (i := 129) (by decide +kernel) rfl
  | 2, _ => exact q_at (i := 131) (by decide +kernel) rfl
  | 3, _ => exact q_at (i := 133) (by decide +kernel) rfl
  | 4, _ => exact q_at (i := 135) (by decide +kernel) rfl
  | 5, _ => exact q_at (i := 137) (by decide +kernel) rfl
  | 6, _ => exact q_at (i := 139) (by decide +kernel) rfl
  | 7, _ => exact q_at (i := 141) (by decide +kernel) rfl
  | 8, _ => exact q_at (i := 143) (by decide +kernel) rfl
  | k + 9, h => exact absurd h (by omega)
def F_Fld : u_T := fun k => match k with
  | 0 => ("HamperByWeather$Fields", "wishes", "[I", true)
  | _ => ("HamperByWeather$Fields", "lefts", "[I", true)
def t_Fld : Nat → FieldType := fun k => match k with
  | 0 => .array .int
  | _ => .array .int
set_option maxRecDepth 20000 in
theorem n_Fld : ∀ a, a < 2 → ∀ b, b < 2 → a ≠ b → (F_Fld a).2.1 ≠ (F_Fld b).2.1 := by decide +kernel
set_option maxRecDepth 20000 in
theorem t_Fld_ok : ∀ k, k < 2 → parseFieldDescriptor (F_Fld k).2.2.1 = some (t_Fld k) := by decide +kernel
set_option maxRecDepth 20000 in
theorem i_Fld : ∀ w ∈ u_ws R_Fld F_Fld 2, w ∈ lw_g := by
  intro w hw
  obtain ⟨k, hk, rfl⟩ := List.mem_map.mp hw
  have hk := List.mem_range.mp hk
  match k, hk with
  | 0, _ => exact q_at (i := 92) (by decide +kernel) rfl
  | 1, _ => exact q_at (i := 94) (by decide +kernel) rfl
  | k + 2, h => exact absurd h (by omega)
def F_Sps : u_T := fun k => match k with
  | 0 => ("HamperByWeather$Steps", "steps", "[LHamperByWeather$Step;", true)
  | _ => ("HamperByWeather$Steps", "count", "I", false)
def t_Sps : Nat → FieldType := fun k => match k with
  | 0 => .array (.object "HamperByWeather$Step")
  | _ => .int
set_option maxRecDepth 20000 in
theorem n_Sps : ∀ a, a < 2 → ∀ b, b < 2 → a ≠ b → (F_Sps a).2.1 ≠ (F_Sps b).2.1 := by decide +kernel
set_option maxRecDepth 20000 in
theorem t_Sps_ok : ∀ k, k < 2 → parseFieldDescriptor (F_Sps k).2.2.1 = some (t_Sps k) := by decide +kernel
set_option maxRecDepth 20000 in
theorem i_Sps : ∀ w ∈ u_ws R_Sps F_Sps 2, w ∈ lw_g := by
  intro w hw
  obtain ⟨k, hk, rfl⟩ := List.mem_map.mp hw
  have hk := List.mem_range.mp hk
  match k, hk with
  | 0, _ => exact q_at (i := 178) (by decide +kernel) rfl
  | 1, _ => exact q_at (i := 180) (by decide +kernel) rfl
  | k + 2, h => exact absurd h (by omega)
def F_Stp : u_T := fun k => match k with
  | 0 => ("HamperByWeather$Step", "part", "I", false)
  | 1 => ("HamperByWeather$Step", "place", "I", false)
  | 2 => ("HamperByWeather$Step", "before", "I", false)
  | 3 => ("HamperByWeather$Step", "leftBefore", "I", false)
  | _ => ("HamperByWeather$Step", "doneBefore", "I", false)
def t_Stp : Nat → FieldType := fun k => match k with
  | 0 => .int
  | 1 => .int
  | 2 => .int
  | 3 => .int
  | _ => .int
set_option maxRecDepth 20000 in
theorem n_Stp : ∀ a, a < 5 → ∀ b, b < 5 → a ≠ b → (F_Stp a).2.1 ≠ (F_Stp b).2.1 := by decide +kernel
set_option maxRecDepth 20000 in
theorem t_Stp_ok : ∀ k, k < 5 → parseFieldDescriptor (F_Stp k).2.2.1 = some (t_Stp k) := by decide +kernel
set_option maxRecDepth 20000 in
theorem i_Stp : ∀ w ∈ u_ws R_Stp F_Stp 5, w ∈ lw_g := by
  intro w hw
  obtain ⟨k, hk, rfl⟩ := List.mem_map.mp hw
  have hk := List.mem_range.mp hk
  match k, hk with
  | 0, _ => exact q_at (i := 164) (by decide +kernel) rfl
  | 1, _ => exact q_at (i := 166) (by decide +kernel) rfl
  | 2, _ => exact q_at (i := 168) (by decide +kernel) rfl
  | 3, _ => exact q_at (i := 170) (by decide +kernel) rfl
  | 4, _ => exact q_at (i := 172) (by decide +kernel) rfl
  | k + 5, h => exact absurd h (by omega)
def F_Let : u_T := fun k => match k with
  | 0 => ("HamperByWeather$Letters", "letters", "[I", true)
  | _ => ("HamperByWeather$Letters", "count", "I", false)
def t_Let : Nat → FieldType := fun k => match k with
  | 0 => .array .int
  | _ => .int
set_option maxRecDepth 20000 in
theorem n_Let : ∀ a, a < 2 → ∀ b, b < 2 → a ≠ b → (F_Let a).2.1 ≠ (F_Let b).2.1 := by decide +kernel
set_option maxRecDepth 20000 in
theorem t_Let_ok : ∀ k, k < 2 → parseFieldDescriptor (F_Let k).2.2.1 = some (t_Let k) := by decide +kernel
set_option maxRecDepth 20000 in
theorem i_Let : ∀ w ∈ u_ws R_Let F_Let 2, w ∈ lw_g := by
  intro w hw
  obtain ⟨k, hk, rfl⟩ := List.mem_map.mp hw
  have hk := List.mem_range.mp hk
  match k, hk with
  | 0, _ => exact q_at (i := 192) (by decide +kernel) rfl
  | 1, _ => exact q_at (i := 194) (by decide +kernel) rfl
  | k + 2, h => exact absurd h (by omega)
def F_Num : u_T := fun k => match k with
  | 0 => ("HamperByWeather$Numbers", "numbers", "[I", true)
  | _ => ("HamperByWeather$Numbers", "count", "I", false)
def t_Num : Nat → FieldType := fun k => match k with
  | 0 => .array .int
  | _ => .int
set_option maxRecDepth 20000 in
theorem n_Num : ∀ a, a < 2 → ∀ b, b < 2 → a ≠ b → (F_Num a).2.1 ≠ (F_Num b).2.1 := by decide +kernel
set_option maxRecDepth 20000 in
theorem t_Num_ok : ∀ k, k < 2 → parseFieldDescriptor (F_Num k).2.2.1 = some (t_Num k) := by decide +kernel
set_option maxRecDepth 20000 in
theorem i_Num : ∀ w ∈ u_ws R_Num F_Num 2, w ∈ lw_g := by
  intro w hw
  obtain ⟨k, hk, rfl⟩ := List.mem_map.mp hw
  have hk := List.mem_range.mp hk
  match k, hk with
  | 0, _ => exact q_at (i := 206) (by decide +kernel) rfl
  | 1, _ => exact q_at (i := 208) (by decide +kernel) rfl
  | k + 2, h => exact absurd h (by omega)
def F_Har : u_T := fun k => match k with
  | 0 => ("HamperByWeather$Harvest", "fields", "LHamperByWeather$Fields;", true)
  | 1 => ("HamperByWeather$Harvest", "weathers", "[I", true)
  | 2 => ("HamperByWeather$Harvest", "days", "I", false)
  | 3 => ("HamperByWeather$Harvest", "path", "[I", true)
  | 4 => ("HamperByWeather$Harvest", "best", "[I", true)
  | 5 => ("HamperByWeather$Harvest", "counted", "I", false)
  | 6 => ("HamperByWeather$Harvest", "atMost", "I", false)
  | 7 => ("HamperByWeather$Harvest", "most", "I", false)
  | 8 => ("HamperByWeather$Harvest", "oneIn", "I", false)
  | 9 => ("HamperByWeather$Harvest", "lotsDone", "I", false)
  | _ => ("HamperByWeather$Harvest", "lotsNone", "I", false)
def t_Har : Nat → FieldType := fun k => match k with
  | 0 => .object "HamperByWeather$Fields"
  | 1 => .array .int
  | 2 => .int
  | 3 => .array .int
  | 4 => .array .int
  | 5 => .int
  | 6 => .int
  | 7 => .int
  | 8 => .int
  | 9 => .int
  | _ => .int
set_option maxRecDepth 20000 in
theorem n_Har : ∀ a, a < 11 → ∀ b, b < 11 → a ≠ b → (F_Har a).2.1 ≠ (F_Har b).2.1 := by decide +kernel
set_option maxRecDepth 20000 in
theorem t_Har_ok : ∀ k, k < 11 → parseFieldDescriptor (F_Har k).2.2.1 = some (t_Har k) := by decide +kernel
set_option maxRecDepth 20000 in
theorem i_Har : ∀ w ∈ u_ws R_Har F_Har 11, w ∈ lw_g := by
  intro w hw
  obtain ⟨k, hk, rfl⟩ := List.mem_map.mp hw
  have hk := List.mem_range.mp hk
  match k, hk with
  | 0, _ => exact q_at (i := 234) (by decide +kernel) rfl
  | 1, _ => exact q_at (i := 236) (by decide +kernel) rfl
  | 2, _ => exact q_at (i := 238) (by decide +kernel) rfl
  | 3, _ => exact q_at (i := 240) (by decide +kernel) rfl
  | 4, _ => exact q_at (i := 242) (by decide +kernel) rfl
  | 5, _ => exact q_at (i := 244) (by decide +kernel) rfl
  | 6, _ => exact q_at (i := 246) (by decide +kernel) rfl
  | 7, _ => exact q_at (i := 248) (by decide +kernel) rfl
  | 8, _ => exact q_at (i := 250) (by decide +kernel) rfl
  | 9, _ => exact q_at (i := 252) (by decide +kernel) rfl
  | 10, _ => exact q_at (i := 254) (by decide +kernel) rfl
  | k + 11, h => exact absurd h (by omega)
def F_Frc : u_T := fun k => match k with
  | 0 => ("HamperByWeather$Fraction", "above", "J", false)
  | _ => ("HamperByWeather$Fraction", "below", "J", false)
def t_Frc : Nat → FieldType := fun k => match k with
  | 0 => .long
  | _ => .long
set_option maxRecDepth 20000 in
theorem n_Frc : ∀ a, a < 2 → ∀ b, b < 2 → a ≠ b → (F_Frc a).2.1 ≠ (F_Frc b).2.1 := by decide +kernel
set_option maxRecDepth 20000 in
theorem t_Frc_ok : ∀ k, k < 2 → parseFieldDescriptor (F_Frc k).2.2.1 = some (t_Frc k) := by decide +kernel
set_option maxRecDepth 20000 in
theorem i_Frc : ∀ w ∈ u_ws R_Frc F_Frc 2, w ∈ lw_g := by
  intro w hw
  obtain ⟨k, hk, rfl⟩ := List.mem_map.mp hw
  have hk := List.mem_range.mp hk
  match k, hk with
  | 0, _ => exact q_at (i := 265) (by decide +kernel) rfl
  | 1, _ => exact q_at (i := 267) (by decide +kernel) rfl
  | k + 2, h => exact absurd h (by omega)
def F_M : u_T := fun k => match k with
  | 0 => ("HamperByWeatherModel", "weights", "[I", true)
  | 1 => ("HamperByWeatherModel", "things", "I", false)
  | 2 => ("HamperByWeatherModel", "kinds", "[I", true)
  | 3 => ("HamperByWeatherModel", "figures", "[I", true)
  | 4 => ("HamperByWeatherModel", "days", "I", false)
  | 5 => ("HamperByWeatherModel", "hampers", "[I", true)
  | 6 => ("HamperByWeatherModel", "wants0", "[I", true)
  | 7 => ("HamperByWeatherModel", "left0", "[I", true)
  | 8 => ("HamperByWeatherModel", "done0", "I", false)
  | 9 => ("HamperByWeatherModel", "thrown", "I", false)
  | 10 => ("HamperByWeatherModel", "refusals", "[I", true)
  | 11 => ("HamperByWeatherModel", "letters", "[I", true)
  | 12 => ("HamperByWeatherModel", "letterMany", "I", false)
  | 13 => ("HamperByWeatherModel", "at", "I", false)
  | 14 => ("HamperByWeatherModel", "isBad", "Z", false)
  | 15 => ("HamperByWeatherModel", "statements", "I", false)
  | 16 => ("HamperByWeatherModel", "placeIn", "[I", true)
  | 17 => ("HamperByWeatherModel", "letterOf", "[I", true)
  | 18 => ("HamperByWeatherModel", "told", "[I", true)
  | 19 => ("HamperByWeatherModel", "kept", "[I", true)
  | 20 => ("HamperByWeatherModel", "imaged", "[I", true)
  | 21 => ("HamperByWeatherModel", "hasImage", "Z", false)
  | 22 => ("HamperByWeatherModel", "place0", "I", false)
  | 23 => ("HamperByWeatherModel", "isTaking", "Z", false)
  | 24 => ("HamperByWeatherModel", "keptIn", "[I", false)
  | 25 => ("HamperByWeatherModel", "turns0", "[I", true)
  | 26 => ("HamperByWeatherModel", "turnOf", "[I", true)
  | 27 => ("HamperByWeatherModel", "turned", "I", false)
  | 28 => ("HamperByWeatherModel", "order0", "[I", true)
  | 29 => ("HamperByWeatherModel", "likely0", "[I", true)
  | 30 => ("HamperByWeatherModel", "leftThen", "[I", true)
  | 31 => ("HamperByWeatherModel", "row", "[I", true)
  | 32 => ("HamperByWeatherModel", "rowMany", "I", false)
  | _ => ("HamperByWeatherModel", "seed", "I", false)
def t_M : Nat → FieldType := fun k => match k with
  | 0 => .array .int
  | 1 => .int
  | 2 => .array .int
  | 3 => .array .int
  | 4 => .int
  | 5 => .array .int
  | 6 => .array .int
  | 7 => .array .int
  | 8 => .int
  | 9 => .int
  | 10 => .array .int
  | 11 => .array .int
  | 12 => .int
  | 13 => .int
  | 14 => .boolean
  | 15 => .int
  | 16 => .array .int
  | 17 => .array .int
  | 18 => .array .int
  | 19 => .array .int
  | 20 => .array .int
  | 21 => .boolean
  | 22 => .int
  | 23 => .boolean
  | 24 => .array .int
  | 25 => .array .int
  | 26 => .array .int
  | 27 => .int
  | 28 => .array .int
  | 29 => .array .int
  | 30 => .array .int
  | 31 => .array .int
  | 32 => .int
  | _ => .int
set_option maxRecDepth 20000 in
theorem n_M : ∀ a, a < 34 → ∀ b, b < 34 → a ≠ b → (F_M a).2.1 ≠ (F_M b).2.1 := by decide +kernel
set_option maxRecDepth 20000 in
theorem t_M_ok : ∀ k, k < 34 → parseFieldDescriptor (F_M k).2.2.1 = some (t_M k) := by decide +kernel
set_option maxRecDepth 20000 in
theorem i_M : ∀ w ∈ u_ws R_M F_M 34, w ∈ lw_g := by
  intro w hw
  obtain ⟨k, hk, rfl⟩ := List.mem_map.mp hw
  have hk := List.mem_range.mp hk
  match k, hk with
  | 0, _ => exact q_at (i := 1008) (by decide +kernel) rfl
  | 1, _ => exact q_at (i := 1010) (by decide +kernel) rfl
  | 2, _ => exact q_at (i := 1012) (by decide +kernel) rfl
  | 3, _ => exact q_at (i := 1014) (by decide +kernel) rfl
  | 4, _ => exact q_at (i := 1016) (by decide +kernel) rfl
  | 5, _ => exact q_at (i := 1018) (by decide +kernel) rfl
  | 6, _ => exact q_at (i := 1020) (by decide +kernel) rfl
  | 7, _ => exact q_at (i := 1022) (by decide +kernel) rfl
  | 8, _ => exact q_at (i := 1024) (by decide +kernel) rfl
  | 9, _ => exact q_at (i := 1026) (by decide +kernel) rfl
  | 10, _ => exact q_at (i := 1028) (by decide +kernel) rfl
  | 11, _ => exact q_at (i := 1030) (by decide +kernel) rfl
  | 12, _ => exact q_at (i := 1032) (by decide +kernel) rfl
  | 13, _ => exact q_at (i := 1034) (by decide +kernel) rfl
  | 14, _ => exact q_at (i := 1036) (by decide +kernel) rfl
  | 15, _ => exact q_at (i := 1038) (by decide +kernel) rfl
  | 16, _ => exact q_at (i := 1040) (by decide +kernel) rfl
  | 17, _ => exact q_at (i := 1042) (by decide +kernel) rfl
  | 18, _ => exact q_at (i := 1044) (by decide +kernel) rfl
  | 19, _ => exact q_at (i := 1046) (by decide +kernel) rfl
  | 20, _ => exact q_at (i := 1048) (by decide +kernel) rfl
  | 21, _ => exact q_at (i := 1050) (by decide +kernel) rfl
  | 22, _ => exact q_at (i := 1052) (by decide +kernel) rfl
  | 23, _ => exact q_at (i := 1054) (by decide +kernel) rfl
  | 24, _ => exact q_at (i := 1056) (by decide +kernel) rfl
  | 25, _ => exact q_at (i := 1058) (by decide +kernel) rfl
  | 26, _ => exact q_at (i := 1060) (by decide +kernel) rfl
  | 27, _ => exact q_at (i := 1062) (by decide +kernel) rfl
  | 28, _ => exact q_at (i := 1064) (by decide +kernel) rfl
  | 29, _ => exact q_at (i := 1066) (by decide +kernel) rfl
  | 30, _ => exact q_at (i := 1068) (by decide +kernel) rfl
  | 31, _ => exact q_at (i := 1070) (by decide +kernel) rfl
  | 32, _ => exact q_at (i := 1072) (by decide +kernel) rfl
  | 33, _ => exact q_at (i := 1074) (by decide +kernel) rfl
  | k + 34, h => exact absurd h (by omega)
abbrev classes : List vw_C := [(R_H, F_H, 10), (R_Sta, F_Sta, 9), (R_Fld, F_Fld, 2), (R_Sps, F_Sps, 2), (R_Stp, F_Stp, 5), (R_Let, F_Let, 2), (R_Num, F_Num, 2), (R_Har, F_Har, 11), (R_Frc, F_Frc, 2), (R_M, F_M, 34)]
/-- the words of a method that is called -/
def mW (y : MethodName) (bytes : ByteArray) (maxL : Nat) (ret : Option FieldType) (n : Nat) : Prop := Cond.code y bytes maxL ret ∈ lw_g ∧ Cond.initialized y.cls ∈ lw_g ∧ y.cls ≠ "java/lang/invoke/MethodHandle" ∧ y.cls ≠ "java/lang/invoke/VarHandle" ∧ (parseMethodDescriptor y.desc).map (fun d => d.parameters.length) = some n
def mV (y : MethodName) : Prop := Cond.instanceMethod y ∈ lw_g ∧ Cond.selects y.cls y y ∈ lw_g
