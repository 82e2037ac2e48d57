/** Rules of the slow model: faults found sign by sign, tests answered by cutting them in parts. */
final class SlowRule {
    private SlowRule() {
    }

    /** The place of the first byte that can not stand, the length if something lacks, -1 if none. */
    static int fault(String text) {
        String state = "target";
        String open = "";
        int digits = 0;
        for (int k = 0; k < text.length(); k++) {
            char c = text.charAt(k);
            boolean digit = "0123456789".indexOf(c) >= 0;
            String next = null;
            switch (state) {
                case "target":
                    next = c == 'P' || c == 'V' ? "target digit" : null;
                    break;
                case "target digit":
                    next = digit ? "colon" : null;
                    break;
                case "colon":
                    next = c == ':' ? "part" : null;
                    break;
                case "part":
                    if ((c == '!' || c == '(') && open.length() < 4) {
                        open += c;
                        next = "part";
                    } else if ("rwvp".indexOf(c) >= 0) {
                        next = "fact digit";
                    } else {
                        next = c == 't' ? "relation" : null;
                    }
                    break;
                case "fact digit":
                    next = digit ? "relation" : null;
                    break;
                case "relation":
                    digits = 0;
                    next = c == '<' || c == '=' || c == '>' ? "number" : null;
                    break;
                default:
                    if (state.equals("number") && digit && digits < 5) {
                        digits++;
                        next = "number";
                    } else if (state.equals("behind") || digits > 0) {
                        open = open.replaceAll("!*$", "");
                        if (c == '&' || c == '|') {
                            next = "part";
                        } else if (c == ')' && open.endsWith("(")) {
                            open = open.substring(0, open.length() - 1);
                            next = "behind";
                        }
                    }
                    break;
            }
            if (next == null) {
                return k;
            }
            state = next;
        }
        boolean whole = state.equals("behind") || state.equals("number") && digits > 0;
        return whole && open.indexOf('(') < 0 ? -1 : text.length();
    }

    static boolean holds(String test, SlowModel model) {
        int or = outside(test, '|');
        if (or >= 0) {
            return holds(test.substring(0, or), model) | holds(test.substring(or + 1), model);
        }
        int and = outside(test, '&');
        if (and >= 0) {
            return holds(test.substring(0, and), model) & holds(test.substring(and + 1), model);
        }
        if (test.startsWith("!")) {
            return !holds(test.substring(1), model);
        }
        if (test.startsWith("(")) {
            return holds(test.substring(1, test.length() - 1), model);
        }
        int at = test.startsWith("t") ? 1 : 2;
        int value = model.fact(test.charAt(0), at == 2 ? test.charAt(1) - '0' : 0);
        int number = Integer.parseInt(test.substring(at + 1));
        char relation = test.charAt(at);
        return relation == '<' ? value < number : relation == '=' ? value == number : value > number;
    }

    /** The first such sign that stands in no brackets. */
    private static int outside(String test, char sign) {
        int deep = 0;
        for (int k = 0; k < test.length(); k++) {
            deep += test.charAt(k) == '(' ? 1 : test.charAt(k) == ')' ? -1 : 0;
            if (deep == 0 && test.charAt(k) == sign) {
                return k;
            }
        }
        return -1;
    }
}
