import java.util.Random;

/** Draws LANDS and RULES, sound ones and spoilt ones. */
final class Texts {
    private static final String SIGNS = "slypwkbrtqfmdaol;:?|&!()[]=<>+-*/0123456789 x#\u0080\u00ff";

    private final Random random;

    Texts(Random random) {
        this.random = random;
    }

    private int under(int n) {
        return random.nextInt(n);
    }

    private String gap() {
        return under(25) == 0 ? "  ".substring(under(2)) : "";
    }

    private String item(char letter, int low, int high) {
        if (under(3) == 0) {
            return "";
        }
        int value = low + under(high - low + 1);
        String number = value < 10 && under(6) == 0 ? "0" + value : String.valueOf(value);
        return gap() + letter + gap() + number + gap();
    }

    private String shuffled(String... items) {
        for (int i = items.length - 1; i > 0; i--) {
            int j = under(i + 1);
            String kept = items[i];
            items[i] = items[j];
            items[j] = kept;
        }
        return String.join("", items);
    }

    /** Four STRIVERS have a low MOST as a rule, since all rows of theirs are gone through. */
    String land() {
        int strivers = 2 + under(5);
        int most = strivers == 4 ? under(4) : under(3) == 0 ? under(3) : under(10);
        int place = under(2) == 0 ? 2 : 1 + under(strivers == 6 ? 6 : strivers + 1);
        int worth = under(2) == 0 ? 12 : 99;
        int fee = under(2) == 0 ? 0 : under(2) == 0 ? 5 : 99;
        String law = gap() + "l" + shuffled(item('r', place, place), item('t', 0, 1), item('q', 0, 2),
                item('f', 0, fee), gap() + "m" + most + gap());
        int lawAt = under(strivers + 1);
        StringBuilder text = new StringBuilder();
        for (int i = 0; i <= strivers; i++) {
            text.append(i == 0 ? "" : ";").append(i == lawAt ? law : gap() + "s" + shuffled(item('p', 1, 9),
                    item('w', 0, worth), item('k', 0, 4), item('b', 0, 9)));
        }
        return text.toString();
    }

    String rule() {
        StringBuilder text = new StringBuilder();
        int clauses = 1 + under(3);
        for (int i = 0; i < clauses; i++) {
            text.append(i == 0 ? "" : ";").append(gap()).append("y").append(gap()).append(":").append(gap());
            if (under(3) > 0) {
                text.append(condition(6, 2)).append("?");
            }
            text.append(sum(6, 2));
        }
        return text.toString();
    }

    private String condition(int within, int size) {
        StringBuilder text = new StringBuilder(unit(within, size));
        for (int i = under(size + 1); i > 0; i--) {
            text.append(under(2) == 0 ? "|" : "&").append(gap()).append(unit(within, size));
        }
        return text.toString();
    }

    private String unit(int within, int size) {
        if (within > 0 && under(4) == 0) {
            return "!" + gap() + unit(within - 1, size);
        }
        if (within > 0 && size > 0 && under(3) == 0) {
            return "(" + gap() + condition(within - 1, size - 1) + ")" + gap();
        }
        return sum(within, size - 1) + "=<>".charAt(under(3)) + gap() + sum(within, size - 1);
    }

    private String sum(int within, int size) {
        StringBuilder text = new StringBuilder(atom(within, size));
        for (int i = size <= 0 ? 0 : under(size + 1); i > 0; i--) {
            text.append("+-*/".charAt(under(4))).append(gap()).append(atom(within, size));
        }
        return text.toString();
    }

    private String atom(int within, int size) {
        if (within > 0 && size > 0 && under(4) == 0) {
            return "[" + gap() + sum(within - 1, size - 1) + "]" + gap();
        }
        int sort = under(8);
        String number = sort == 0 ? String.valueOf(under(10000)) : sort == 1 ? "0" + under(1000) : String.valueOf(under(6));
        return (under(3) > 0 ? String.valueOf("daboltdd".charAt(under(8))) : number) + gap();
    }

    String spoilt(String text) {
        StringBuilder other = new StringBuilder(text);
        for (int i = 1 + under(3); i > 0; i--) {
            int at = under(other.length() + 1);
            char sign = SIGNS.charAt(under(SIGNS.length()));
            int how = under(4);
            if (how == 0 || at == other.length()) {
                other.insert(at, sign);
            } else if (how == 1) {
                other.setCharAt(at, sign);
            } else if (how == 2) {
                other.deleteCharAt(at);
            } else if (at > 0) {
                other.setLength(at);
            }
        }
        return other.toString();
    }
}
