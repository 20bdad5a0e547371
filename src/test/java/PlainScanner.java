/**
 * Finds the FAULT of a text sign by sign, with a stack of what is open and no recursion:
 * another way than the class's own, so that one can be held against the other.
 */
final class PlainScanner {
    private enum Want { DEED, BECOME, WAY, SOURCE, UNIT, DIGIT, BEHIND_UNIT, BEHIND_DEED }

    // v: E of v = E; [ and { : their E; P, Q: the parts of [ ]; L: that of { }; ( and ~.
    private final StringBuilder open = new StringBuilder();
    // For each E that is open: whether its < or = has been.
    private final StringBuilder compared = new StringBuilder();
    private Want want = Want.DEED;
    private int deeds;
    private int digits;
    private int number;
    private int numberAt;

    /** How many S the text has, or -10 less its FAULT. */
    static int scan(int[] bytes, int length) {
        PlainScanner scanner = new PlainScanner();
        for (int i = 0; i < length; i++) {
            int fault = scanner.take((char) bytes[i], i);
            if (fault >= 0) {
                return -10 - fault;
            }
        }
        boolean whole = scanner.open.length() == 0 && scanner.want == Want.BEHIND_DEED
            || scanner.open.toString().equals("v")
            && (scanner.want == Want.BEHIND_UNIT || scanner.want == Want.DIGIT);
        return whole ? scanner.deeds : -10 - length;
    }

    private int opened(String kinds) {
        int n = 0;
        for (int i = 0; i < open.length(); i++) {
            n += kinds.indexOf(open.charAt(i)) >= 0 ? 1 : 0;
        }
        return n;
    }

    private char top() {
        return open.length() == 0 ? '.' : open.charAt(open.length() - 1);
    }

    private void close() {
        open.setLength(open.length() - 1);
    }

    private void closeFormula() {
        compared.setLength(compared.length() - 1);
    }

    private void openFormula(char kind) {
        open.append(kind);
        compared.append('n');
        want = Want.UNIT;
    }

    private void endUnit() {
        while (top() == '~') {
            close();
        }
        want = Want.BEHIND_UNIT;
    }

    private static boolean isVariable(char sign) {
        return sign >= 'a' && sign <= 'h';
    }

    private static boolean isDigit(char sign) {
        return sign >= '0' && sign <= '9';
    }

    /** The FAULT, or -1: the sign goes on. */
    private int take(char sign, int at) {
        boolean fine = false;
        switch (want) {
            case DEED:
                fine = takeDeed(sign);
                break;
            case BECOME:
                fine = sign == '=' || sign == '@';
                if (sign == '=') {
                    openFormula('v');
                } else {
                    want = Want.WAY;
                }
                break;
            case WAY:
                fine = "nesw".indexOf(sign) >= 0;
                want = Want.SOURCE;
                break;
            case SOURCE:
                fine = isVariable(sign);
                want = Want.BEHIND_DEED;
                break;
            case UNIT:
                fine = takeUnit(sign, at);
                break;
            case DIGIT:
                if (isDigit(sign) && digits < 3) {
                    number = number * 10 + sign - '0';
                    digits++;
                    return number > 255 ? numberAt : -1;
                }
                fine = behindUnit(sign);
                break;
            case BEHIND_UNIT:
                fine = behindUnit(sign);
                break;
            default:
                fine = behindDeed(sign);
                break;
        }
        return fine ? -1 : at;
    }

    private boolean takeDeed(char sign) {
        deeds++;
        if (isVariable(sign)) {
            want = Want.BECOME;
            return true;
        }
        boolean room = opened("[PQ{L") < 4;
        if (sign == '[' && room || sign == '{' && room && opened("{L") < 2) {
            openFormula(sign);
            return true;
        }
        return false;
    }

    private boolean takeUnit(char sign, int at) {
        if (isDigit(sign)) {
            digits = 1;
            number = sign - '0';
            numberAt = at;
            // What a ~ works on ends with the number; none can be opened within it.
            endUnit();
            want = Want.DIGIT;
            return true;
        }
        if (isVariable(sign) || sign == '#') {
            endUnit();
            return true;
        }
        if (opened("(~") >= 5) {
            return false;
        }
        if (sign == '(') {
            openFormula('(');
            return true;
        }
        if (sign == '~') {
            open.append('~');
            return true;
        }
        return false;
    }

    private boolean behindUnit(char sign) {
        if ("+-*&".indexOf(sign) >= 0) {
            want = Want.UNIT;
            return true;
        }
        int last = compared.length() - 1;
        if (sign == '<' || sign == '=') {
            boolean once = compared.charAt(last) == 'n';
            compared.setCharAt(last, 'y');
            want = Want.UNIT;
            return once;
        }
        char kind = top();
        if (kind == '(') {
            close();
            closeFormula();
            endUnit();
            return sign == ')';
        }
        closeFormula();
        close();
        if (kind == 'v') {
            return behindDeed(sign);
        }
        open.append(kind == '[' ? 'P' : 'L');
        want = Want.DEED;
        return sign == ':';
    }

    private boolean behindDeed(char sign) {
        char kind = top();
        if (sign == ';') {
            want = Want.DEED;
            return true;
        }
        if (sign == '|' && kind == 'P') {
            close();
            open.append('Q');
            want = Want.DEED;
            return true;
        }
        if (sign == ']' && (kind == 'P' || kind == 'Q') || sign == '}' && kind == 'L') {
            close();
            want = Want.BEHIND_DEED;
            return true;
        }
        return false;
    }
}
