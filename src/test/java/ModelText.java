import java.math.BigInteger;
import java.util.ArrayList;
import java.util.Arrays;
import java.util.HashMap;
import java.util.List;
import java.util.Map;
import java.util.regex.Matcher;
import java.util.regex.Pattern;

/** A TEXT of RULES of the Model, as a tree of functions of what the NAMES are. */
final class ModelText {
    static final List<String> GIVEN = Arrays.asList(
            "lane", "stretch", "height", "depth", "day", "mill", "draught", "wheel", "sacks");
    private static final List<String> KEYWORDS = Arrays.asList(
            "let", "forbid", "allow", "toll", "of", "way", "if", "or", "and", "not");

    static final class Fault extends Exception {
        private static final long serialVersionUID = 1;
        final int kind;
        final int place;

        Fault(int kind, int place) {
            this.kind = kind;
            this.place = place;
        }
    }

    interface Sum {
        BigInteger of(Map<String, Long> names);
    }

    interface Cond {
        boolean of(Map<String, Long> names);
    }

    static final class Rule {
        String kind;
        String name;
        Sum sum;
        Cond cond;
        int first;
        int second;
    }

    private static final class Token {
        final String text;
        final int place;

        Token(String text, int place) {
            this.text = text;
            this.place = place;
        }
    }

    final List<Rule> rules = new ArrayList<>();
    private final List<Token> tokens = new ArrayList<>();
    private final List<String> names = new ArrayList<>(GIVEN);
    private int at = 0;
    private int brackets = 0;
    private int lets = 0;

    ModelText(String text) throws Fault {
        Matcher m = Pattern.compile("[a-z]+|[0-9]+|[^a-z0-9 \\n]", Pattern.DOTALL).matcher(text);
        while (m.find()) {
            tokens.add(new Token(m.group(), m.start()));
        }
        tokens.add(new Token("", text.length()));
        while (!is("")) {
            rule();
        }
    }

    private boolean is(String text) {
        return tokens.get(at).text.equals(text);
    }

    private Fault fault(int kind) {
        return new Fault(kind, tokens.get(at).place);
    }

    private String next() {
        return tokens.get(at++).text;
    }

    private void want(String text) throws Fault {
        if (!is(text)) {
            throw fault(1);
        }
        at++;
    }

    private boolean isName() {
        return tokens.get(at).text.matches("[a-z]{1,8}") && !KEYWORDS.contains(tokens.get(at).text);
    }

    private boolean isNumber() {
        return tokens.get(at).text.matches("[0-9]{1,4}");
    }

    private int number() throws Fault {
        if (!isNumber()) {
            throw fault(1);
        }
        return Integer.parseInt(next());
    }

    private void rule() throws Fault {
        if (!Arrays.asList("let", "forbid", "allow", "toll", "way").contains(tokens.get(at).text)) {
            throw fault(1);
        }
        if (rules.size() == 20) {
            throw fault(4);
        }
        Rule rule = new Rule();
        rule.kind = next();
        if (rule.kind.equals("let")) {
            let(rule);
        } else {
            numbers(rule);
            want("if");
            rule.cond = cond();
        }
        want(";");
        if (rule.name != null) {
            names.add(rule.name);
        }
        rules.add(rule);
    }

    private void let(Rule rule) throws Fault {
        if (!isName()) {
            throw fault(1);
        }
        if (names.contains(tokens.get(at).text)) {
            throw fault(3);
        }
        if (++lets == 7) {
            throw fault(4);
        }
        rule.name = next();
        want("=");
        rule.sum = sum();
    }

    private void numbers(Rule rule) throws Fault {
        if (rule.kind.equals("toll")) {
            rule.first = number();
            want("of");
            rule.second = number();
            if (rule.second <= 0 || rule.second < rule.first) {
                at--;
                throw fault(2);
            }
        }
        if (rule.kind.equals("way")) {
            rule.first = number();
            if (rule.first > 6) {
                at--;
                throw fault(2);
            }
        }
    }

    private Cond cond() throws Fault {
        Cond left = both();
        while (is("or")) {
            at++;
            Cond a = left;
            Cond b = both();
            left = names -> a.of(names) || b.of(names);
        }
        return left;
    }

    private Cond both() throws Fault {
        Cond left = part();
        while (is("and")) {
            at++;
            Cond a = left;
            Cond b = part();
            left = names -> a.of(names) && b.of(names);
        }
        return left;
    }

    private void open() throws Fault {
        if (brackets == 4) {
            throw fault(4);
        }
        brackets++;
        at++;
    }

    private Cond part() throws Fault {
        if (is("not")) {
            at++;
            Cond a = part();
            return names -> !a.of(names);
        }
        if (is("[")) {
            open();
            Cond a = cond();
            want("]");
            brackets--;
            return a;
        }
        Sum a = sum();
        if (!is("<") && !is(">") && !is("=")) {
            throw fault(1);
        }
        String sign = next();
        Sum b = sum();
        return names -> {
            int compared = a.of(names).compareTo(b.of(names));
            return sign.equals("<") ? compared < 0 : sign.equals(">") ? compared > 0 : compared == 0;
        };
    }

    private static BigInteger bounded(BigInteger v) {
        BigInteger bound = BigInteger.valueOf(1000000000);
        return v.min(bound).max(bound.negate());
    }

    private Sum sum() throws Fault {
        Sum left = product();
        while (is("+") || is("-")) {
            boolean plus = next().equals("+");
            Sum a = left;
            Sum b = product();
            left = names -> bounded(plus ? a.of(names).add(b.of(names)) : a.of(names).subtract(b.of(names)));
        }
        return left;
    }

    private Sum product() throws Fault {
        Sum left = factor();
        while (is("*")) {
            at++;
            Sum a = left;
            Sum b = factor();
            left = names -> bounded(a.of(names).multiply(b.of(names)));
        }
        return left;
    }

    private Sum factor() throws Fault {
        if (is("(")) {
            open();
            Sum a = sum();
            want(")");
            brackets--;
            return a;
        }
        if (isNumber()) {
            BigInteger n = BigInteger.valueOf(number());
            return names -> n;
        }
        if (!isName()) {
            throw fault(1);
        }
        if (!names.contains(tokens.get(at).text)) {
            throw fault(3);
        }
        String name = next();
        return names -> BigInteger.valueOf(names.get(name));
    }

    /** The last RULE of these kinds whose COND holds, or -1. */
    int last(Map<String, Long> scene, List<String> kinds) {
        Map<String, Long> known = new HashMap<>(scene);
        int last = -1;
        for (int i = 0; i < rules.size(); i++) {
            Rule rule = rules.get(i);
            if (rule.name != null) {
                known.put(rule.name, rule.sum.of(known).longValue());
            } else if (kinds.contains(rule.kind) && rule.cond.of(known)) {
                last = i;
            }
        }
        return last;
    }
}
