set_option maxRecDepth 100000 in
theorem ok235 : mc235.all (fun q => chkI 235 q.1 q.2) = true := by decide +kernel
set_option maxRecDepth 100000 in
theorem okM235 : chkM 235 = true := by decide +kernel
set_option maxRecDepth 100000 in
theorem ok236 : mc236.all (fun q => chkI 236 q.1 q.2) = true := by decide +kernel
set_option maxRecDepth 100000 in
theorem okM236 : chkM 236 = true := by decide +kernel
set_option maxRecDepth 100000 in
theorem ok237 : mc237.all (fun q => chkI 237 q.1 q.2) = true := by decide +kernel
set_option maxRecDepth 100000 in
theorem okM237 : chkM 237 = true := by decide +kernel
set_option maxRecDepth 100000 in
theorem ok238 : mc238.all (fun q => chkI 238 q.1 q.2) = true := by decide +kernel
set_option maxRecDepth 100000 in
theorem okM238 : chkM 238 = true := by decide +kernel
set_option maxRecDepth 100000 in
theorem ok239 : mc239.all (fun q => chkI 239 q.1 q.2) = true := by decide +kernel
set_option maxRecDepth 100000 in
theorem okM239 : chkM 239 = true := by decide +kernel
set_option maxRecDepth 100000 in
theorem ok240 : mc240.all (fun q => chkI 240 q.1 q.2) = true := by decide +kernel
set_option maxRecDepth 100000 in
theorem okM240 : chkM 240 = true := by decide +kernel
set_option maxRecDepth 100000 in
theorem ok241 : mc241.all (fun q => chkI 241 q.1 q.2) = true := by decide +kernel
set_option maxRecDepth 100000 in
theorem okM241 : chkM 241 = true := by decide +kernel
set_option maxRecDepth 100000 in
theorem ok242 : mc242.all (fun q => chkI 242 q.1 q.2) = true := by decide +kernel
set_option maxRecDepth 100000 in
theorem okM242 : chkM 242 = true := by decide +kernel
set_option maxRecDepth 100000 in
theorem ok243 : mc243.all (fun q => chkI 243 q.1 q.2) = true := by decide +kernel
set_option maxRecDepth 100000 in
theorem okM243 : chkM 243 = true := by decide +kernel
set_option maxRecDepth 100000 in
theorem ok244 : mc244.all (fun q => chkI 244 q.1 q.2) = true := by decide +kernel
set_option maxRecDepth 100000 in
theorem okM244 : chkM 244 = true := by decide +kernel
set_option maxRecDepth 100000 in
theorem ok245 : mc245.all (fun q => chkI 245 q.1 q.2) = true := by decide +kernel
set_option maxRecDepth 100000 in
theorem okM245 : chkM 245 = true := by decide +kernel
set_option maxRecDepth 100000 in
theorem ok246 : mc246.all (fun q => chkI 246 q.1 q.2) = true := by decide +kernel
set_option maxRecDepth 100000 in
theorem okM246 : chkM 246 = true := by decide +kernel
set_option maxRecDepth 100000 in
theorem ok247 : mc247.all (fun q => chkI 247 q.1 q.2) = true := by decide +kernel
set_option maxRecDepth 100000 in
theorem okM247 : chkM 247 = true := by decide +kernel
set_option maxRecDepth 100000 in
theorem ok248 : mc248.all (fun q => chkI 248 q.1 q.2) = true := by decide +kernel
set_option maxRecDepth 100000 in
theorem okM248 : chkM 248 = true := by decide +kernel
set_option maxRecDepth 100000 in
theorem ok249 : mc249.all (fun q => chkI 249 q.1 q.2) = true := by decide +kernel
set_option maxRecDepth 100000 in
theorem okM249 : chkM 249 = true := by decide +kernel
set_option maxRecDepth 100000 in
theorem ok250 : mc250.all (fun q => chkI 250 q.1 q.2) = true := by decide +kernel
set_option maxRecDepth 100000 in
theorem okM250 : chkM 250 = true := by decide +kernel
set_option maxRecDepth 100000 in
theorem ok251 : mc251.all (fun q => chkI 251 q.1 q.2) = true := by decide +kernel
set_option maxRecDepth 100000 in
theorem okM251 : chkM 251 = true := by decide +kernel
set_option maxRecDepth 100000 in
theorem ok252 : mc252.all (fun q => chkI 252 q.1 q.2) = true := by decide +kernel
set_option maxRecDepth 100000 in
theorem okM252 : chkM 252 = true := by decide +kernel
set_option maxRecDepth 100000 in
theorem ok253 : mc253.all (fun q => chkI 253 q.1 q.2) = true := by decide +kernel
set_option maxRecDepth 100000 in
theorem okM253 : chkM 253 = true := by decide +kernel
set_option maxRecDepth 100000 in
theorem ok254 : mc254.all (fun q => chkI 254 q.1 q.2) = true := by decide +kernel
set_option maxRecDepth 100000 in
theorem okM254 : chkM 254 = true := by decide +kernel
set_option maxRecDepth 100000 in
theorem ok255 : mc255.all (fun q => chkI 255 q.1 q.2) = true := by decide +kernel
set_option maxRecDepth 100000 in
theorem okM255 : chkM 255 = true := by decide +kernel
set_option maxRecDepth 100000 in
theorem ok256 : mc256.all (fun q => chkI 256 q.1 q.2) = true := by decide +kernel
set_option maxRecDepth 100000 in
theorem okM256 : chkM 256 = true := by decide +kernel
set_option maxRecDepth 100000 in
theorem ok257 : mc257.all (fun q => chkI 257 q.1 q.2) = true := by decide +kernel
set_option maxRecDepth 100000 in
theorem okM257 : chkM 257 = true := by decide +kernel
set_option maxRecDepth 100000 in
theorem ok258 : mc258.all (fun q => chkI 258 q.1 q.2) = true := by decide +kernel
set_option maxRecDepth 100000 in
theorem okM258 : chkM 258 = true := by decide +kernel
set_option maxRecDepth 100000 in
theorem ok259 : mc259.all (fun q => chkI 259 q.1 q.2) = true := by decide +kernel
set_option maxRecDepth 100000 in
theorem okM259 : chkM 259 = true := by decide +kernel
set_option maxRecDepth 100000 in
theorem ok260 : mc260.all (fun q => chkI 260 q.1 q.2) = true := by decide +kernel
set_option maxRecDepth 100000 in
theorem okM260 : chkM 260 = true := by decide +kernel
set_option maxRecDepth 100000 in
theorem ok261 : mc261.all (fun q => chkI 261 q.1 q.2) = true := by decide +kernel
set_option maxRecDepth 100000 in
theorem okM261 : chkM 261 = true := by decide +kernel
set_option maxRecDepth 100000 in
theorem ok262 : mc262.all (fun q => chkI 262 q.1 q.2) = true := by decide +kernel
set_option maxRecDepth 100000 in
theorem okM262 : chkM 262 = true := by decide +kernel
set_option maxRecDepth 100000 in
theorem ok263 : mc263.all (fun q => chkI 263 q.1 q.2) = true := by decide +kernel
set_option maxRecDepth 100000 in
theorem okM263 : chkM 263 = true := by decide +kernel
set_option maxRecDepth 100000 in
theorem ok264 : mc264.all (fun q => chkI 264 q.1 q.2) = true := by decide +kernel
set_option maxRecDepth 100000 in
theorem okM264 : chkM 264 = true := by decide +kernel
set_option maxRecDepth 100000 in
theorem ok265 : mc265.all (fun q => chkI 265 q.1 q.2) = true := by decide +kernel
set_option maxRecDepth 100000 in
theorem okM265 : chkM 265 = true := by decide +kernel
set_option maxRecDepth 100000 in
theorem ok266 : mc266.all (fun q => chkI 266 q.1 q.2) = true := by decide +kernel
set_option maxRecDepth 100000 in
theorem okM266 : chkM 266 = true := by decide +kernel
set_option maxRecDepth 100000 in
theorem ok267 : mc267.all (fun q => chkI 267 q.1 q.2) = true := by decide +kernel
set_option maxRecDepth 100000 in
theorem okM267 : chkM 267 = true := by decide +kernel
set_option maxRecDepth 100000 in
theorem ok268 : mc268.all (fun q => chkI 268 q.1 q.2) = true := by decide +kernel
set_option maxRecDepth 100000 in
theorem okM268 : chkM 268 = true := by decide +kernel
set_option maxRecDepth 100000 in
theorem ok269 : mc269.all (fun q => chkI 269 q.1 q.2) = true := by decide +kernel
set_option maxRecDepth 100000 in
theorem okM269 : chkM 269 = true := by decide +kernel
set_option maxRecDepth 100000 in
theorem ok270 : mc270.all (fun q => chkI 270 q.1 q.2) = true := by decide +kernel
set_option maxRecDepth 100000 in
theorem okM270 : chkM 270 = true := by decide +kernel
set_option maxRecDepth 100000 in
theorem ok271 : mc271.all (fun q => chkI 271 q.1 q.2) = true := by decide +kernel
set_option maxRecDepth 100000 in
theorem okM271 : chkM 271 = true := by decide +kernel
set_option maxRecDepth 100000 in
theorem ok272 : mc272.all (fun q => chkI 272 q.1 q.2) = true := by decide +kernel
set_option maxRecDepth 100000 in
theorem okM272 : chkM 272 = true := by decide +kernel
set_option maxRecDepth 100000 in
theorem ok273 : mc273.all (fun q => chkI 273 q.1 q.2) = true := by decide +kernel
set_option maxRecDepth 100000 in
theorem okM273 : chkM 273 = true := by decide +kernel
set_option maxRecDepth 100000 in
theorem ok274 : mc274.all (fun q => chkI 274 q.1 q.2) = true := by decide +kernel
set_option maxRecDepth 100000 in
theorem okM274 : chkM 274 = true := by decide +kernel
set_option maxRecDepth 100000 in
theorem ok275 : mc275.all (fun q => chkI 275 q.1 q.2) = true := by decide +kernel
set_option maxRecDepth 100000 in
theorem okM275 : chkM 275 = true := by decide +kernel
set_option maxRecDepth 100000 in
theorem ok276 : mc276.all (fun q => chkI 276 q.1 q.2) = true := by decide +kernel
set_option maxRecDepth 100000 in
theorem okM276 : chkM 276 = true := by decide +kernel
set_option maxRecDepth 100000 in
theorem ok277 : mc277.all (fun q => chkI 277 q.1 q.2) = true := by decide +kernel
set_option maxRecDepth 100000 in
theorem okM277 : chkM 277 = true := by decide +kernel
set_option maxRecDepth 100000 in
theorem ok278 : mc278.all (fun q => chkI 278 q.1 q.2) = true := by decide +kernel
set_option maxRecDepth 100000 in
theorem okM278 : chkM 278 = true := by decide +kernel
set_option maxRecDepth 100000 in
theorem ok279 : mc279.all (fun q => chkI 279 q.1 q.2) = true := by decide +kernel
set_option maxRecDepth 100000 in
theorem okM279 : chkM 279 = true := by decide +kernel
set_option maxRecDepth 100000 in
theorem ok280 : mc280.all (fun q => chkI 280 q.1 q.2) = true := by decide +kernel
set_option maxRecDepth 100000 in
theorem okM280 : chkM 280 = true := by decide +kernel
set_option maxRecDepth 100000 in
theorem ok281 : mc281.all (fun q => chkI 281 q.1 q.2) = true := by decide +kernel
set_option maxRecDepth 100000 in
theorem okM281 : chkM 281 = true := by decide +kernel
set_option maxRecDepth 100000 in
theorem ok282 : mc282.all (fun q => chkI 282 q.1 q.2) = true := by decide +kernel
set_option maxRecDepth 100000 in
theorem okM282 : chkM 282 = true := by decide +kernel
set_option maxRecDepth 100000 in
theorem ok283 : mc283.all (fun q => chkI 283 q.1 q.2) = true := by decide +kernel
set_option maxRecDepth 100000 in
theorem okM283 : chkM 283 = true := by decide +kernel
set_option maxRecDepth 100000 in
theorem ok284 : mc284.all (fun q => chkI 284 q.1 q.2) = true := by decide +kernel
set_option maxRecDepth 100000 in
theorem okM284 : chkM 284 = true := by decide +kernel
set_option maxRecDepth 100000 in
theorem ok285 : mc285.all (fun q => chkI 285 q.1 q.2) = true := by decide +kernel
set_option maxRecDepth 100000 in
theorem okM285 : chkM 285 = true := by decide +kernel
set_option maxRecDepth 100000 in
theorem ok286 : mc286.all (fun q => chkI 286 q.1 q.2) = true := by decide +kernel
set_option maxRecDepth 100000 in
theorem okM286 : chkM 286 = true := by decide +kernel
set_option maxRecDepth 100000 in
theorem ok287 : mc287.all (fun q => chkI 287 q.1 q.2) = true := by decide +kernel
set_option maxRecDepth 100000 in
theorem okM287 : chkM 287 = true := by decide +kernel
set_option maxRecDepth 100000 in
theorem ok288 : mc288.all (fun q => chkI 288 q.1 q.2) = true := by decide +kernel
set_option maxRecDepth 100000 in
theorem ok289 : mc289.all (fun q => chkI 289 q.1 q.2) = true := by decide +kernel
set_option maxRecDepth 100000 in
theorem ok290 : mc290.all (fun q => chkI 290 q.1 q.2) = true := by decide +kernel
set_option maxRecDepth 100000 in
theorem ok291 : mc291.all (fun q => chkI 291 q.1 q.2) = true := by decide +kernel
set_option maxRecDepth 100000 in
theorem ok292 : mc292.all (fun q => chkI 292 q.1 q.2) = true := by decide +kernel
set_option maxRecDepth 100000 in
theorem okM292 : chkM 292 = true := by decide +kernel
set_option maxRecDepth 100000 in
theorem ok295 : mc295.all (fun q => chkI 295 q.1 q.2) = true := by decide +kernel
set_option maxRecDepth 100000 in
theorem okM295 : chkM 295 = true := by decide +kernel
set_option maxRecDepth 100000 in
theorem ok296 : mc296.all (fun q => chkI 296 q.1 q.2) = true := by decide +kernel
set_option maxRecDepth 100000 in
theorem okM296 : chkM 296 = true := by decide +kernel
set_option maxRecDepth 100000 in
theorem ok297 : mc297.all (fun q => chkI 297 q.1 q.2) = true := by decide +kernel
set_option maxRecDepth 100000 in
theorem okM297 : chkM 297 = true := by decide +kernel
set_option maxRecDepth 100000 in
theorem ok298 : mc298.all (fun q => chkI 298 q.1 q.2) = true := by decide +kernel
set_option maxRecDepth 100000 in
theorem okM298 : chkM 298 = true := by decide +kernel
set_option maxRecDepth 100000 in
theorem ok299 : mc299.all (fun q => chkI 299 q.1 q.2) = true := by decide +kernel
set_option maxRecDepth 100000 in
theorem okM299 : chkM 299 = true := by decide +kernel
set_option maxRecDepth 100000 in
theorem ok300 : mc300.all (fun q => chkI 300 q.1 q.2) = true := by decide +kernel
set_option maxRecDepth 100000 in
theorem okM300 : chkM 300 = true := by decide +kernel
set_option maxRecDepth 100000 in
theorem ok301 : mc301.all (fun q => chkI 301 q.1 q.2) = true := by decide +kernel
set_option maxRecDepth 100000 in
theorem okM301 : chkM 301 = true := by decide +kernel
set_option maxRecDepth 100000 in
theorem ok302 : mc302.all (fun q => chkI 302 q.1 q.2) = true := by decide +kernel
set_option maxRecDepth 100000 in
theorem okM302 : chkM 302 = true := by decide +kernel
