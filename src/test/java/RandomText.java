import java.util.ArrayList;
import java.util.List;
import java.util.Random;

/** Texts of RULES by chance, some of them with FAULTS. */
final class RandomText {
    private final Random chance;
    private final List<String> names = new ArrayList<>();
    private final StringBuilder text = new StringBuilder();
    private final int brackets;

    private RandomText(Random chance) {
        this.chance = chance;
        // few texts have deep brackets, as most of the deep ones have a FAULT
        brackets = chance.nextInt(6) == 0 ? 6 : 2;
        names.addAll(ModelText.GIVEN);
    }

    static String make(Random chance) {
        RandomText made = new RandomText(chance);
        int rules = chance.nextInt(12) == 0 ? 22 : chance.nextInt(7);
        for (int i = 0; i < rules && made.text.length() < 360; i++) {
            made.rule(rules > 20);
        }
        String text = made.text.toString();
        if (chance.nextInt(5) == 0) {
            text = spoil(chance, text);
        }
        return text.length() > 400 ? text.substring(0, 400) : text;
    }

    private static String spoil(Random chance, String text) {
        StringBuilder spoilt = new StringBuilder(text);
        int times = 1 + chance.nextInt(2);
        for (int i = 0; i < times && spoilt.length() > 0; i++) {
            int at = chance.nextInt(spoilt.length());
            switch (chance.nextInt(5)) {
                case 0:
                    spoilt.deleteCharAt(at);
                    break;
                case 1:
                    spoilt.setLength(at);
                    break;
                case 2:
                    spoilt.insert(at, (char) chance.nextInt(256));
                    break;
                case 3:
                    spoilt.setCharAt(at, "az09();[]<>=+-*, \n\t~{A".charAt(chance.nextInt(21)));
                    break;
                default:
                    spoilt.insert(at, pick(chance, " not ", " or ", "[", "(", "12", "let ", ";", " if ", "x", ")", "]"));
                    break;
            }
        }
        return spoilt.toString();
    }

    private static String pick(Random chance, String... of) {
        return of[chance.nextInt(of.length)];
    }

    private void add(String s) {
        boolean letters = text.length() > 0 && Character.isLetterOrDigit(text.charAt(text.length() - 1));
        if (letters && Character.isLetter(s.charAt(0)) && Character.isLetter(text.charAt(text.length() - 1))
                || letters && Character.isDigit(s.charAt(0)) && Character.isDigit(text.charAt(text.length() - 1))
                || chance.nextInt(3) == 0) {
            text.append(chance.nextInt(9) == 0 ? "\n" : " ");
        }
        text.append(s);
    }

    private void rule(boolean small) {
        switch (chance.nextInt(small ? 3 : 6)) {
            case 0:
                add("forbid");
                break;
            case 1:
                add("allow");
                break;
            case 2:
                add("way");
                add(chance.nextInt(30) == 0 ? "7" : "" + chance.nextInt(5));
                break;
            case 3:
                toll();
                break;
            default:
                let();
                return;
        }
        add("if");
        cond(0, small ? 0 : 1 + chance.nextInt(2));
        add(";");
    }

    private void toll() {
        int first = chance.nextInt(5);
        add("toll");
        add("" + first);
        add("of");
        add("" + (first + chance.nextInt(chance.nextInt(20) == 0 ? 1 : 9)));
    }

    private void let() {
        String name = pick(chance, "a", "b", "lo", "mid", "high", "abcdefgh", "zz", "q", "w", "lets", "notif");
        add("let");
        add(name);
        add("=");
        sum(0, 2);
        add(";");
        if (!names.contains(name) || chance.nextInt(20) == 0) {
            names.add(name);
        }
    }

    private void cond(int open, int more) {
        both(open, more);
        if (more > 0 && chance.nextInt(3) == 0) {
            add("or");
            both(open, more - 1);
        }
    }

    private void both(int open, int more) {
        part(open, more);
        if (more > 0 && chance.nextInt(3) == 0) {
            add("and");
            part(open, more - 1);
        }
    }

    private void part(int open, int more) {
        while (chance.nextInt(5) == 0) {
            add("not");
        }
        if (open < brackets && chance.nextInt(3) == 0) {
            add("[");
            cond(open + 1, more);
            add("]");
            return;
        }
        sum(open, more);
        add(pick(chance, "<", ">", "="));
        sum(open, more);
    }

    private void sum(int open, int more) {
        product(open, more);
        if (more > 0 && chance.nextInt(3) == 0) {
            add(pick(chance, "+", "-"));
            product(open, more - 1);
        }
        if (more > 0 && chance.nextInt(6) == 0) {
            add(pick(chance, "+", "-"));
            product(open, more - 1);
        }
    }

    private void product(int open, int more) {
        factor(open, more);
        for (int i = 0; i < 4 && more > 0 && chance.nextInt(5) == 0; i++) {
            add("*");
            factor(open, more - 1);
        }
    }

    private void factor(int open, int more) {
        int one = chance.nextInt(10);
        if (one == 0 && open < brackets) {
            add("(");
            sum(open + 1, more);
            add(")");
        } else if (one < 5) {
            add("" + chance.nextInt(chance.nextInt(8) == 0 ? 10000 : 12));
        } else if (one == 9 && chance.nextInt(40) == 0) {
            add("nobody");
        } else {
            add(names.get(chance.nextInt(names.size())));
        }
    }
}
