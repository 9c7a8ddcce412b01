import java.util.ArrayList;
import java.util.Arrays;
import java.util.List;

/** The law's grammar as it stands in the document: a method a rule, a tree of what is read. */
final class PlainLaw {
    private static final List<String> TRAITS =
        Arrays.asList("kind", "row", "column", "beside", "below", "hour", "gone");
    private static final List<String> WORDS = Arrays.asList("run", "when", "or", "and", "not");

    static final class Fault extends Exception {
        private static final long serialVersionUID = 1L;
        final int which;
        final int place;

        Fault(int which, int place) {
            this.which = which;
            this.place = place;
        }
    }

    interface Term {
        int value(int[] traits);
    }

    interface Test {
        boolean isSo(int[] traits);
    }

    private final List<Term> odds = new ArrayList<>();
    private final List<Test> tests = new ArrayList<>();
    private String text = "";
    private int place;
    private String token = "";

    int lines() {
        return odds.size();
    }

    int odds(int[] traits) {
        for (int i = 0; i < odds.size(); i++) {
            if (tests.get(i) == null || tests.get(i).isSo(traits)) {
                int v = odds.get(i).value(traits);
                return v < 0 ? 0 : v > 1000 ? 1000 : v;
            }
        }
        return 500;
    }

    void read(String of) throws Fault {
        text = of;
        place = 0;
        look();
        while (!token.isEmpty()) {
            line();
        }
    }

    /** Finds the token at or behind the place; what is none is told as "?". */
    private void look() {
        while (place < text.length() && (text.charAt(place) == ' ' || text.charAt(place) == '\n')) {
            place++;
        }
        String rest = text.substring(place);
        if (rest.isEmpty()) {
            token = "";
            return;
        }
        java.util.regex.Matcher m =
            java.util.regex.Pattern.compile("^([A-Za-z]+|[0-9]+|[-;+*/()<=>])").matcher(rest);
        token = m.find() ? m.group() : "?";
        boolean isWord = Character.isLetter(token.charAt(0));
        if (isWord && !TRAITS.contains(token) && !WORDS.contains(token)) {
            token = "?";
        }
        if (isNumber() && token.length() > 4) {
            token = "?";
        }
    }

    private boolean isNumber() {
        return !token.isEmpty() && token.charAt(0) >= '0' && token.charAt(0) <= '9';
    }

    private void pass() {
        place += token.length();
        look();
    }

    private void need(String one) throws Fault {
        if (!token.equals(one)) {
            throw new Fault(1, place);
        }
        pass();
    }

    private void line() throws Fault {
        if (token.equals("run") && odds.size() == 16) {
            throw new Fault(3, place);
        }
        need("run");
        Term e = sum();
        Test b = null;
        if (token.equals("when")) {
            pass();
            b = any(0);
        }
        need(";");
        odds.add(e);
        tests.add(b);
    }

    private Test any(int open) throws Fault {
        List<Test> parts = new ArrayList<>();
        parts.add(each(open));
        while (token.equals("or")) {
            pass();
            parts.add(each(open));
        }
        return traits -> parts.stream().anyMatch(t -> t.isSo(traits));
    }

    private Test each(int open) throws Fault {
        List<Test> parts = new ArrayList<>();
        parts.add(one(open));
        while (token.equals("and")) {
            pass();
            parts.add(one(open));
        }
        return traits -> parts.stream().allMatch(t -> t.isSo(traits));
    }

    private Test one(int open) throws Fault {
        if (token.equals("(") || token.equals("not")) {
            if (open == 8) {
                throw new Fault(3, place);
            }
            boolean isNot = token.equals("not");
            pass();
            if (isNot) {
                Test c = one(open + 1);
                return traits -> !c.isSo(traits);
            }
            Test b = any(open + 1);
            need(")");
            return b;
        }
        Term left = sum();
        String sign = token;
        if (!sign.equals("<") && !sign.equals("=") && !sign.equals(">")) {
            throw new Fault(1, place);
        }
        pass();
        Term right = sum();
        return traits -> {
            int order = Integer.compare(left.value(traits), right.value(traits));
            return sign.equals("<") ? order < 0 : sign.equals("=") ? order == 0 : order > 0;
        };
    }

    private Term sum() throws Fault {
        Term sum = product();
        while (token.equals("+") || token.equals("-")) {
            Term left = sum;
            boolean isPlus = token.equals("+");
            pass();
            Term right = product();
            sum = traits -> isPlus ? left.value(traits) + right.value(traits) : left.value(traits) - right.value(traits);
        }
        return sum;
    }

    private Term product() throws Fault {
        Term product = unit();
        while (token.equals("*") || token.equals("/")) {
            Term left = product;
            boolean isTimes = token.equals("*");
            pass();
            if (isTimes) {
                Term right = unit();
                product = traits -> left.value(traits) * right.value(traits);
            } else {
                if (!isNumber()) {
                    throw new Fault(1, place);
                }
                int by = Integer.parseInt(token);
                if (by == 0) {
                    throw new Fault(2, place);
                }
                pass();
                product = traits -> left.value(traits) / by;
            }
        }
        return product;
    }

    private Term unit() throws Fault {
        if (isNumber()) {
            int v = Integer.parseInt(token);
            pass();
            return traits -> v;
        }
        int trait = TRAITS.indexOf(token);
        if (trait < 0) {
            throw new Fault(1, place);
        }
        pass();
        return traits -> traits[trait];
    }
}
