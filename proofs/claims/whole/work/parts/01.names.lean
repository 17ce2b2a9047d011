/-- the tables words that every call keeps -/
def sw_tb : List Cond := lw_tbl.filter goodWord
theorem tb_mem {w : Cond} (i : Nat) (h : tables_1[i]? = some w) (hg : goodWord w = true) : w ∈ sw_tb := List.mem_filter.mpr ⟨List.mem_append_right _ (List.mem_of_getElem? h), hg⟩
theorem ts_mem {w : Cond} (i : Nat) (h : (k2_sels lw_privs)[i]? = some w) (hg : goodWord w = true) : w ∈ sw_tb := List.mem_filter.mpr ⟨List.mem_append_left _ (List.mem_of_getElem? h), hg⟩
theorem tb_good {x : Cond} {c : Cond} (h : c ∈ sw_tb) : GoodIn (x :: sw_tb) (c :: sw_tb) := fun w hw => (List.mem_cons.mp hw).elim (fun e => by rw [e]; exact ⟨List.mem_cons_of_mem _ h, good_of_word (List.mem_filter.mp h).2⟩) (fun hm => ⟨List.mem_cons_of_mem _ hm, good_of_word (List.mem_filter.mp hm).2⟩)
def R_Hi : String := "SeeSaws$History"
def F_Hi : u_T := fun k => match k with
  | 0 => ("SeeSaws$History", "kept", "I", false)
  | 1 => ("SeeSaws$History", "next", "I", false)
  | _ => ("SeeSaws$History", "records", "[I", true)
def t_Hi : Nat → FieldType := fun k => match k with
  | 0 => .int
  | 1 => .int
  | _ => .array .int
set_option maxRecDepth 20000 in
theorem n_Hi : ∀ a, a < 3 → ∀ b, b < 3 → a ≠ b → (F_Hi a).2.1 ≠ (F_Hi b).2.1 := by decide +kernel
theorem t_Hi_ok : ∀ k, k < 3 → parseFieldDescriptor (F_Hi k).2.2.1 = some (t_Hi k) := by decide +kernel
theorem i_Hi : ∀ w ∈ u_ws R_Hi F_Hi 3, w ∈ sw_tb := by
  intro w hw
  obtain ⟨k, hk, rfl⟩ := List.mem_map.mp hw
  have hk := List.mem_range.mp hk
  match k, hk with
  | 0, _ => exact tb_mem 102 (by decide +kernel) (by decide +kernel)
  | 1, _ => exact tb_mem 104 (by decide +kernel) (by decide +kernel)
  | 2, _ => exact tb_mem 106 (by decide +kernel) (by decide +kernel)
  | k + 3, hk => omega
def R_Ju : String := "SeeSaws$Judge"
def F_Ju : u_T := fun k => match k with
  | 0 => ("SeeSaws$Judge", "reckoner", "LSeeSaws$Reckoner;", true)
  | _ => ("SeeSaws$Judge", "words", "[I", true)
def t_Ju : Nat → FieldType := fun k => match k with
  | 0 => .object "SeeSaws$Reckoner"
  | _ => .array .int
set_option maxRecDepth 20000 in
theorem n_Ju : ∀ a, a < 2 → ∀ b, b < 2 → a ≠ b → (F_Ju a).2.1 ≠ (F_Ju b).2.1 := by decide +kernel
theorem t_Ju_ok : ∀ k, k < 2 → parseFieldDescriptor (F_Ju k).2.2.1 = some (t_Ju k) := by decide +kernel
theorem i_Ju : ∀ w ∈ u_ws R_Ju F_Ju 2, w ∈ sw_tb := by
  intro w hw
  obtain ⟨k, hk, rfl⟩ := List.mem_map.mp hw
  have hk := List.mem_range.mp hk
  match k, hk with
  | 0, _ => exact tb_mem 225 (by decide +kernel) (by decide +kernel)
  | 1, _ => exact tb_mem 227 (by decide +kernel) (by decide +kernel)
  | k + 2, hk => omega
def R_Pl : String := "SeeSaws$Plank"
def F_Pl : u_T := fun k => match k with
  | 0 => ("SeeSaws$Plank", "claims", "I", false)
  | 1 => ("SeeSaws$Plank", "heavy", "[I", true)
  | 2 => ("SeeSaws$Plank", "kind", "[I", true)
  | 3 => ("SeeSaws$Plank", "place", "[I", true)
  | 4 => ("SeeSaws$Plank", "term", "[I", true)
  | 5 => ("SeeSaws$Plank", "weighings", "I", false)
  | 6 => ("SeeSaws$Plank", "left", "[I", true)
  | 7 => ("SeeSaws$Plank", "right", "[I", true)
  | 8 => ("SeeSaws$Plank", "came", "[I", true)
  | 9 => ("SeeSaws$Plank", "laws", "I", false)
  | 10 => ("SeeSaws$Plank", "texts", "[LSeeSaws$Text;", true)
  | _ => ("SeeSaws$Plank", "inForce", "I", false)
def t_Pl : Nat → FieldType := fun k => match k with
  | 0 => .int
  | 1 => .array .int
  | 2 => .array .int
  | 3 => .array .int
  | 4 => .array .int
  | 5 => .int
  | 6 => .array .int
  | 7 => .array .int
  | 8 => .array .int
  | 9 => .int
  | 10 => .array (.object "SeeSaws$Text")
  | _ => .int
set_option maxRecDepth 20000 in
theorem n_Pl : ∀ a, a < 12 → ∀ b, b < 12 → a ≠ b → (F_Pl a).2.1 ≠ (F_Pl b).2.1 := by decide +kernel
theorem t_Pl_ok : ∀ k, k < 12 → parseFieldDescriptor (F_Pl k).2.2.1 = some (t_Pl k) := by decide +kernel
theorem i_Pl : ∀ w ∈ u_ws R_Pl F_Pl 12, w ∈ sw_tb := by
  intro w hw
  obtain ⟨k, hk, rfl⟩ := List.mem_map.mp hw
  have hk := List.mem_range.mp hk
  match k, hk with
  | 0, _ => exact tb_mem 65 (by decide +kernel) (by decide +kernel)
  | 1, _ => exact tb_mem 67 (by decide +kernel) (by decide +kernel)
  | 2, _ => exact tb_mem 69 (by decide +kernel) (by decide +kernel)
  | 3, _ => exact tb_mem 71 (by decide +kernel) (by decide +kernel)
  | 4, _ => exact tb_mem 73 (by decide +kernel) (by decide +kernel)
  | 5, _ => exact tb_mem 75 (by decide +kernel) (by decide +kernel)
  | 6, _ => exact tb_mem 77 (by decide +kernel) (by decide +kernel)
  | 7, _ => exact tb_mem 79 (by decide +kernel) (by decide +kernel)
  | 8, _ => exact tb_mem 81 (by decide +kernel) (by decide +kernel)
  | 9, _ => exact tb_mem 83 (by decide +kernel) (by decide +kernel)
  | 10, _ => exact tb_mem 85 (by decide +kernel) (by decide +kernel)
  | 11, _ => exact tb_mem 87 (by decide +kernel) (by decide +kernel)
  | k + 12, hk => omega
def R_Re : String := "SeeSaws$Reader"
def F_Re : u_T := fun k => match k with
  | 0 => ("SeeSaws$Reader", "length", "I", false)
  | 1 => ("SeeSaws$Reader", "bytes", "[I", true)
  | 2 => ("SeeSaws$Reader", "fault", "I", false)
  | 3 => ("SeeSaws$Reader", "text", "LSeeSaws$Text;", true)
  | 4 => ("SeeSaws$Reader", "ofLaws", "Z", false)
  | 5 => ("SeeSaws$Reader", "start", "I", false)
  | 6 => ("SeeSaws$Reader", "behind", "I", false)
  | 7 => ("SeeSaws$Reader", "parts", "I", false)
  | _ => ("SeeSaws$Reader", "depth", "I", false)
def t_Re : Nat → FieldType := fun k => match k with
  | 0 => .int
  | 1 => .array .int
  | 2 => .int
  | 3 => .object "SeeSaws$Text"
  | 4 => .boolean
  | 5 => .int
  | 6 => .int
  | 7 => .int
  | _ => .int
set_option maxRecDepth 20000 in
theorem n_Re : ∀ a, a < 9 → ∀ b, b < 9 → a ≠ b → (F_Re a).2.1 ≠ (F_Re b).2.1 := by decide +kernel
theorem t_Re_ok : ∀ k, k < 9 → parseFieldDescriptor (F_Re k).2.2.1 = some (t_Re k) := by decide +kernel
theorem i_Re : ∀ w ∈ u_ws R_Re F_Re 9, w ∈ sw_tb := by
  intro w hw
  obtain ⟨k, hk, rfl⟩ := List.mem_map.mp hw
  have hk := List.mem_range.mp hk
  match k, hk with
  | 0, _ => exact tb_mem 182 (by decide +kernel) (by decide +kernel)
  | 1, _ => exact tb_mem 184 (by decide +kernel) (by decide +kernel)
  | 2, _ => exact tb_mem 186 (by decide +kernel) (by decide +kernel)
  | 3, _ => exact tb_mem 188 (by decide +kernel) (by decide +kernel)
  | 4, _ => exact tb_mem 190 (by decide +kernel) (by decide +kernel)
  | 5, _ => exact tb_mem 192 (by decide +kernel) (by decide +kernel)
  | 6, _ => exact tb_mem 194 (by decide +kernel) (by decide +kernel)
  | 7, _ => exact tb_mem 196 (by decide +kernel) (by decide +kernel)
  | 8, _ => exact tb_mem 198 (by decide +kernel) (by decide +kernel)
  | k + 9, hk => omega
def R_Rk : String := "SeeSaws$Reckoner"
def F_Rk : u_T := fun k => match k with
  | 0 => ("SeeSaws$Reckoner", "value", "I", false)
  | _ => ("SeeSaws$Reckoner", "stack", "[J", true)
def t_Rk : Nat → FieldType := fun k => match k with
  | 0 => .int
  | _ => .array .long
set_option maxRecDepth 20000 in
theorem n_Rk : ∀ a, a < 2 → ∀ b, b < 2 → a ≠ b → (F_Rk a).2.1 ≠ (F_Rk b).2.1 := by decide +kernel
theorem t_Rk_ok : ∀ k, k < 2 → parseFieldDescriptor (F_Rk k).2.2.1 = some (t_Rk k) := by decide +kernel
theorem i_Rk : ∀ w ∈ u_ws R_Rk F_Rk 2, w ∈ sw_tb := by
  intro w hw
  obtain ⟨k, hk, rfl⟩ := List.mem_map.mp hw
  have hk := List.mem_range.mp hk
  match k, hk with
  | 0, _ => exact tb_mem 217 (by decide +kernel) (by decide +kernel)
  | 1, _ => exact tb_mem 219 (by decide +kernel) (by decide +kernel)
  | k + 2, hk => omega
def R_Ro : String := "SeeSaws$Rows"
def F_Ro : u_T := fun k => match k with
  | 0 => ("SeeSaws$Rows", "first", "[I", true)
  | 1 => ("SeeSaws$Rows", "choices", "[I", true)
  | 2 => ("SeeSaws$Rows", "place", "[[I", true)
  | 3 => ("SeeSaws$Rows", "weight", "[[I", true)
  | 4 => ("SeeSaws$Rows", "cost", "[[I", true)
  | 5 => ("SeeSaws$Rows", "below", "[[I", true)
  | 6 => ("SeeSaws$Rows", "price", "I", false)
  | _ => ("SeeSaws$Rows", "bound", "I", false)
def t_Ro : Nat → FieldType := fun k => match k with
  | 0 => .array .int
  | 1 => .array .int
  | 2 => .array (.array .int)
  | 3 => .array (.array .int)
  | 4 => .array (.array .int)
  | 5 => .array (.array .int)
  | 6 => .int
  | _ => .int
set_option maxRecDepth 20000 in
theorem n_Ro : ∀ a, a < 8 → ∀ b, b < 8 → a ≠ b → (F_Ro a).2.1 ≠ (F_Ro b).2.1 := by decide +kernel
theorem t_Ro_ok : ∀ k, k < 8 → parseFieldDescriptor (F_Ro k).2.2.1 = some (t_Ro k) := by decide +kernel
theorem i_Ro : ∀ w ∈ u_ws R_Ro F_Ro 8, w ∈ sw_tb := by
  intro w hw
  obtain ⟨k, hk, rfl⟩ := List.mem_map.mp hw
  have hk := List.mem_range.mp hk
  match k, hk with
  | 0, _ => exact tb_mem 249 (by decide +kernel) (by decide +kernel)
  | 1, _ => exact tb_mem 251 (by decide +kernel) (by decide +kernel)
  | 2, _ => exact tb_mem 253 (by decide +kernel) (by decide +kernel)
  | 3, _ => exact tb_mem 255 (by decide +kernel) (by decide +kernel)
  | 4, _ => exact tb_mem 257 (by decide +kernel) (by decide +kernel)
  | 5, _ => exact tb_mem 259 (by decide +kernel) (by decide +kernel)
  | 6, _ => exact tb_mem 261 (by decide +kernel) (by decide +kernel)
  | 7, _ => exact tb_mem 263 (by decide +kernel) (by decide +kernel)
  | k + 8, hk => omega
def R_Te : String := "SeeSaws$Text"
def F_Te : u_T := fun k => match k with
  | 0 => ("SeeSaws$Text", "clauses", "I", false)
  | 1 => ("SeeSaws$Text", "verb", "[I", true)
  | 2 => ("SeeSaws$Text", "first", "[I", true)
  | 3 => ("SeeSaws$Text", "second", "[I", true)
  | 4 => ("SeeSaws$Text", "times", "[I", true)
  | 5 => ("SeeSaws$Text", "test", "[I", true)
  | 6 => ("SeeSaws$Text", "used", "I", false)
  | _ => ("SeeSaws$Text", "code", "[I", true)
def t_Te : Nat → FieldType := fun k => match k with
  | 0 => .int
  | 1 => .array .int
  | 2 => .array .int
  | 3 => .array .int
  | 4 => .array .int
  | 5 => .array .int
  | 6 => .int
  | _ => .array .int
set_option maxRecDepth 20000 in
theorem n_Te : ∀ a, a < 8 → ∀ b, b < 8 → a ≠ b → (F_Te a).2.1 ≠ (F_Te b).2.1 := by decide +kernel
theorem t_Te_ok : ∀ k, k < 8 → parseFieldDescriptor (F_Te k).2.2.1 = some (t_Te k) := by decide +kernel
theorem i_Te : ∀ w ∈ u_ws R_Te F_Te 8, w ∈ sw_tb := by
  intro w hw
  obtain ⟨k, hk, rfl⟩ := List.mem_map.mp hw
  have hk := List.mem_range.mp hk
  match k, hk with
  | 0, _ => exact tb_mem 152 (by decide +kernel) (by decide +kernel)
  | 1, _ => exact tb_mem 154 (by decide +kernel) (by decide +kernel)
  | 2, _ => exact tb_mem 156 (by decide +kernel) (by decide +kernel)
  | 3, _ => exact tb_mem 158 (by decide +kernel) (by decide +kernel)
  | 4, _ => exact tb_mem 160 (by decide +kernel) (by decide +kernel)
  | 5, _ => exact tb_mem 162 (by decide +kernel) (by decide +kernel)
  | 6, _ => exact tb_mem 164 (by decide +kernel) (by decide +kernel)
  | 7, _ => exact tb_mem 166 (by decide +kernel) (by decide +kernel)
  | k + 8, hk => omega
def R_Sx : String := "SeeSaws"
def F_Sx : u_T := fun k => match k with
  | 0 => ("SeeSaws", "plank", "LSeeSaws$Plank;", true)
  | 1 => ("SeeSaws", "plankBefore", "LSeeSaws$Plank;", true)
  | 2 => ("SeeSaws", "paper", "LSeeSaws$Plank;", true)
  | 3 => ("SeeSaws", "images", "[LSeeSaws$Plank;", true)
  | 4 => ("SeeSaws", "history", "LSeeSaws$History;", true)
  | 5 => ("SeeSaws", "historyBefore", "LSeeSaws$History;", true)
  | 6 => ("SeeSaws", "reader", "LSeeSaws$Reader;", true)
  | 7 => ("SeeSaws", "judge", "LSeeSaws$Judge;", true)
  | 8 => ("SeeSaws", "reckoner", "LSeeSaws$Reckoner;", true)
  | 9 => ("SeeSaws", "words", "[I", true)
  | 10 => ("SeeSaws", "rows", "LSeeSaws$Rows;", true)
  | 11 => ("SeeSaws", "sums", "[I", true)
  | 12 => ("SeeSaws", "found", "[I", true)
  | 13 => ("SeeSaws", "refused", "[I", true)
  | 14 => ("SeeSaws", "refusedBy", "I", false)
  | 15 => ("SeeSaws", "dust", "I", false)
  | _ => ("SeeSaws", "stoppedAt", "I", false)
def t_Sx : Nat → FieldType := fun k => match k with
  | 0 => .object "SeeSaws$Plank"
  | 1 => .object "SeeSaws$Plank"
  | 2 => .object "SeeSaws$Plank"
  | 3 => .array (.object "SeeSaws$Plank")
  | 4 => .object "SeeSaws$History"
  | 5 => .object "SeeSaws$History"
  | 6 => .object "SeeSaws$Reader"
  | 7 => .object "SeeSaws$Judge"
  | 8 => .object "SeeSaws$Reckoner"
  | 9 => .array .int
  | 10 => .object "SeeSaws$Rows"
  | 11 => .array .int
  | 12 => .array .int
  | 13 => .array .int
  | 14 => .int
  | 15 => .int
  | _ => .int
set_option maxRecDepth 20000 in
theorem n_Sx : ∀ a, a < 17 → ∀ b, b < 17 → a ≠ b → (F_Sx a).2.1 ≠ (F_Sx b).2.1 := by decide +kernel
theorem t_Sx_ok : ∀ k, k < 17 → parseFieldDescriptor (F_Sx k).2.2.1 = some (t_Sx k) := by decide +kernel
theorem i_Sx : ∀ w ∈ u_ws R_Sx F_Sx 17, w ∈ sw_tb := by
  intro w hw
  obtain ⟨k, hk, rfl⟩ := List.mem_map.mp hw
  have hk := List.mem_range.mp hk
  match k, hk with
  | 0, _ => exact tb_mem 283 (by decide +kernel) (by decide +kernel)
  | 1, _ => exact tb_mem 285 (by decide +kernel) (by decide +kernel)
  | 2, _ => exact tb_mem 287 (by decide +kernel) (by decide +kernel)
  | 3, _ => exact tb_mem 289 (by decide +kernel) (by decide +kernel)
  | 4, _ => exact tb_mem 291 (by decide +kernel) (by decide +kernel)
  | 5, _ => exact tb_mem 293 (by decide +kernel) (by decide +kernel)
  | 6, _ => exact tb_mem 295 (by decide +kernel) (by decide +kernel)
  | 7, _ => exact tb_mem 297 (by decide +kernel) (by decide +kernel)
  | 8, _ => exact tb_mem 299 (by decide +kernel) (by decide +kernel)
  | 9, _ => exact tb_mem 301 (by decide +kernel) (by decide +kernel)
  | 10, _ => exact tb_mem 303 (by decide +kernel) (by decide +kernel)
  | 11, _ => exact tb_mem 305 (by decide +kernel) (by decide +kernel)
  | 12, _ => exact tb_mem 307 (by decide +kernel) (by decide +kernel)
  | 13, _ => exact tb_mem 309 (by decide +kernel) (by decide +kernel)
  | 14, _ => exact tb_mem 311 (by decide +kernel) (by decide +kernel)
  | 15, _ => exact tb_mem 313 (by decide +kernel) (by decide +kernel)
  | 16, _ => exact tb_mem 315 (by decide +kernel) (by decide +kernel)
  | k + 17, hk => omega
def R_Mo : String := "SeeSawsModel"
def F_Mo : u_T := fun k => match k with
  | 0 => ("SeeSawsModel", "status", "I", false)
  | 1 => ("SeeSawsModel", "refused", "[I", true)
  | 2 => ("SeeSawsModel", "kept", "[I", true)
  | 3 => ("SeeSawsModel", "images", "[I", true)
  | 4 => ("SeeSawsModel", "hasImage", "[Z", true)
  | 5 => ("SeeSawsModel", "aside", "[I", true)
  | 6 => ("SeeSawsModel", "sawdust0", "I", false)
  | 7 => ("SeeSawsModel", "words", "[B", true)
  | 8 => ("SeeSawsModel", "firstWord", "I", false)
  | 9 => ("SeeSawsModel", "lastWord", "I", false)
  | 10 => ("SeeSawsModel", "isOrders", "Z", false)
  | 11 => ("SeeSawsModel", "tape", "[B", true)
  | 12 => ("SeeSawsModel", "five", "[I", true)
  | 13 => ("SeeSawsModel", "taped", "I", false)
  | 14 => ("SeeSawsModel", "fault", "I", false)
  | 15 => ("SeeSawsModel", "code", "[I", true)
  | 16 => ("SeeSawsModel", "value", "[I", true)
  | 17 => ("SeeSawsModel", "placed", "[I", true)
  | 18 => ("SeeSawsModel", "tokens", "I", false)
  | 19 => ("SeeSawsModel", "token", "I", false)
  | 20 => ("SeeSawsModel", "leaves", "I", false)
  | 21 => ("SeeSawsModel", "bad", "I", false)
  | 22 => ("SeeSawsModel", "go", "I", false)
  | 23 => ("SeeSawsModel", "goEnd", "I", false)
  | 24 => ("SeeSawsModel", "broken", "Z", false)
  | 25 => ("SeeSawsModel", "inOrders", "Z", false)
  | 26 => ("SeeSawsModel", "asked", "[I", true)
  | 27 => ("SeeSawsModel", "orderDone", "I", false)
  | 28 => ("SeeSawsModel", "orderLatest", "I", false)
  | 29 => ("SeeSawsModel", "orderTilt", "I", false)
  | 30 => ("SeeSawsModel", "less", "[I", true)
  | 31 => ("SeeSawsModel", "left0", "[I", true)
  | 32 => ("SeeSawsModel", "leftAhead", "[I", true)
  | 33 => ("SeeSawsModel", "undoMany", "I", false)
  | 34 => ("SeeSawsModel", "pull", "[I", true)
  | 35 => ("SeeSawsModel", "barred", "[Z", true)
  | 36 => ("SeeSawsModel", "best", "[I", true)
  | 37 => ("SeeSawsModel", "mode", "I", false)
  | 38 => ("SeeSawsModel", "tiltOf", "[I", true)
  | 39 => ("SeeSawsModel", "offMany", "[I", true)
  | 40 => ("SeeSawsModel", "wins", "[Z", true)
  | 41 => ("SeeSawsModel", "alike", "[I", true)
  | 42 => ("SeeSawsModel", "share", "[J", true)
  | 43 => ("SeeSawsModel", "stopped0", "I", false)
  | 44 => ("SeeSawsModel", "orderAt", "I", false)
  | 45 => ("SeeSawsModel", "howOften", "I", false)
  | 46 => ("SeeSawsModel", "head", "I", false)
  | 47 => ("SeeSawsModel", "sumsAre", "Z", false)
  | 48 => ("SeeSawsModel", "testIs", "Z", false)
  | 49 => ("SeeSawsModel", "sums", "[J", true)
  | 50 => ("SeeSawsModel", "drawnMoved", "[I", true)
  | 51 => ("SeeSawsModel", "drawnMany", "I", false)
  | _ => ("SeeSawsModel", "latest", "I", false)
def t_Mo : Nat → FieldType := fun k => match k with
  | 0 => .int
  | 1 => .array .int
  | 2 => .array .int
  | 3 => .array .int
  | 4 => .array .boolean
  | 5 => .array .int
  | 6 => .int
  | 7 => .array .byte
  | 8 => .int
  | 9 => .int
  | 10 => .boolean
  | 11 => .array .byte
  | 12 => .array .int
  | 13 => .int
  | 14 => .int
  | 15 => .array .int
  | 16 => .array .int
  | 17 => .array .int
  | 18 => .int
  | 19 => .int
  | 20 => .int
  | 21 => .int
  | 22 => .int
  | 23 => .int
  | 24 => .boolean
  | 25 => .boolean
  | 26 => .array .int
  | 27 => .int
  | 28 => .int
  | 29 => .int
  | 30 => .array .int
  | 31 => .array .int
  | 32 => .array .int
  | 33 => .int
  | 34 => .array .int
  | 35 => .array .boolean
  | 36 => .array .int
  | 37 => .int
  | 38 => .array .int
  | 39 => .array .int
  | 40 => .array .boolean
  | 41 => .array .int
  | 42 => .array .long
  | 43 => .int
  | 44 => .int
  | 45 => .int
  | 46 => .int
  | 47 => .boolean
  | 48 => .boolean
  | 49 => .array .long
  | 50 => .array .int
  | 51 => .int
  | _ => .int
set_option maxRecDepth 20000 in
theorem n_Mo : ∀ a, a < 53 → ∀ b, b < 53 → a ≠ b → (F_Mo a).2.1 ≠ (F_Mo b).2.1 := by decide +kernel
theorem t_Mo_ok : ∀ k, k < 53 → parseFieldDescriptor (F_Mo k).2.2.1 = some (t_Mo k) := by decide +kernel
theorem i_Mo : ∀ w ∈ u_ws R_Mo F_Mo 53, w ∈ sw_tb := by
  intro w hw
  obtain ⟨k, hk, rfl⟩ := List.mem_map.mp hw
  have hk := List.mem_range.mp hk
  match k, hk with
  | 0, _ => exact tb_mem 1044 (by decide +kernel) (by decide +kernel)
  | 1, _ => exact tb_mem 1046 (by decide +kernel) (by decide +kernel)
  | 2, _ => exact tb_mem 1048 (by decide +kernel) (by decide +kernel)
  | 3, _ => exact tb_mem 1050 (by decide +kernel) (by decide +kernel)
  | 4, _ => exact tb_mem 1052 (by decide +kernel) (by decide +kernel)
  | 5, _ => exact tb_mem 1054 (by decide +kernel) (by decide +kernel)
  | 6, _ => exact tb_mem 1056 (by decide +kernel) (by decide +kernel)
  | 7, _ => exact tb_mem 1058 (by decide +kernel) (by decide +kernel)
  | 8, _ => exact tb_mem 1060 (by decide +kernel) (by decide +kernel)
  | 9, _ => exact tb_mem 1062 (by decide +kernel) (by decide +kernel)
  | 10, _ => exact tb_mem 1064 (by decide +kernel) (by decide +kernel)
  | 11, _ => exact tb_mem 1066 (by decide +kernel) (by decide +kernel)
  | 12, _ => exact tb_mem 1068 (by decide +kernel) (by decide +kernel)
  | 13, _ => exact tb_mem 1070 (by decide +kernel) (by decide +kernel)
  | 14, _ => exact tb_mem 1072 (by decide +kernel) (by decide +kernel)
  | 15, _ => exact tb_mem 1074 (by decide +kernel) (by decide +kernel)
  | 16, _ => exact tb_mem 1076 (by decide +kernel) (by decide +kernel)
  | 17, _ => exact tb_mem 1078 (by decide +kernel) (by decide +kernel)
  | 18, _ => exact tb_mem 1080 (by decide +kernel) (by decide +kernel)
  | 19, _ => exact tb_mem 1082 (by decide +kernel) (by decide +kernel)
  | 20, _ => exact tb_mem 1084 (by decide +kernel) (by decide +kernel)
  | 21, _ => exact tb_mem 1086 (by decide +kernel) (by decide +kernel)
  | 22, _ => exact tb_mem 1088 (by decide +kernel) (by decide +kernel)
  | 23, _ => exact tb_mem 1090 (by decide +kernel) (by decide +kernel)
  | 24, _ => exact tb_mem 1092 (by decide +kernel) (by decide +kernel)
  | 25, _ => exact tb_mem 1094 (by decide +kernel) (by decide +kernel)
  | 26, _ => exact tb_mem 1096 (by decide +kernel) (by decide +kernel)
  | 27, _ => exact tb_mem 1098 (by decide +kernel) (by decide +kernel)
  | 28, _ => exact tb_mem 1100 (by decide +kernel) (by decide +kernel)
  | 29, _ => exact tb_mem 1102 (by decide +kernel) (by decide +kernel)
  | 30, _ => exact tb_mem 1104 (by decide +kernel) (by decide +kernel)
  | 31, _ => exact tb_mem 1106 (by decide +kernel) (by decide +kernel)
  | 32, _ => exact tb_mem 1108 (by decide +kernel) (by decide +kernel)
  | 33, _ => exact tb_mem 1110 (by decide +kernel) (by decide +kernel)
  | 34, _ => exact tb_mem 1112 (by decide +kernel) (by decide +kernel)
  | 35, _ => exact tb_mem 1114 (by decide +kernel) (by decide +kernel)
  | 36, _ => exact tb_mem 1116 (by decide +kernel) (by decide +kernel)
  | 37, _ => exact tb_mem 1118 (by decide +kernel) (by decide +kernel)
  | 38, _ => exact tb_mem 1120 (by decide +kernel) (by decide +kernel)
  | 39, _ => exact tb_mem 1122 (by decide +kernel) (by decide +kernel)
  | 40, _ => exact tb_mem 1124 (by decide +kernel) (by decide +kernel)
  | 41, _ => exact tb_mem 1126 (by decide +kernel) (by decide +kernel)
  | 42, _ => exact tb_mem 1128 (by decide +kernel) (by decide +kernel)
  | 43, _ => exact tb_mem 1130 (by decide +kernel) (by decide +kernel)
  | 44, _ => exact tb_mem 1132 (by decide +kernel) (by decide +kernel)
  | 45, _ => exact tb_mem 1134 (by decide +kernel) (by decide +kernel)
  | 46, _ => exact tb_mem 1136 (by decide +kernel) (by decide +kernel)
  | 47, _ => exact tb_mem 1138 (by decide +kernel) (by decide +kernel)
  | 48, _ => exact tb_mem 1140 (by decide +kernel) (by decide +kernel)
  | 49, _ => exact tb_mem 1142 (by decide +kernel) (by decide +kernel)
  | 50, _ => exact tb_mem 1144 (by decide +kernel) (by decide +kernel)
  | 51, _ => exact tb_mem 1146 (by decide +kernel) (by decide +kernel)
  | 52, _ => exact tb_mem 1148 (by decide +kernel) (by decide +kernel)
  | k + 53, hk => omega
abbrev swCl : List vw_C := [(R_Hi, F_Hi, 3), (R_Ju, F_Ju, 2), (R_Pl, F_Pl, 12), (R_Re, F_Re, 9), (R_Rk, F_Rk, 2), (R_Ro, F_Ro, 8), (R_Te, F_Te, 8), (R_Sx, F_Sx, 17), (R_Mo, F_Mo, 53)]
