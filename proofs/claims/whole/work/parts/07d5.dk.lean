theorem zdk_5 : (List.range' 209 22).all zdk = true := by decide +kernel
