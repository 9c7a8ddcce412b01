import java.util.Random;

/** Texts of laws by the grammar, some of them spoilt. */
final class RandomTexts {
    private static final String[] TRAITS = {"kind", "row", "column", "beside", "below", "hour", "gone"};
    private static final String[] SPOILS = {"run", "when", "or", "and", "not", "kind", "Row", "x", "00", "0", "12345",
        "/0", "/ 0", "(", ")", ";", "+", "-", "*", "/", "<", "=", ">", "!", "\t", "\r", "\u00e9", "\u0000", " ", "\n", "runn"};
    private final Random random;

    RandomTexts(Random random) {
        this.random = random;
    }

    String next() {
        int sort = random.nextInt(20);
        String text = sort == 0 ? deep() : sort == 1 ? many() : lines(1 + random.nextInt(4));
        int spoils = random.nextInt(3) == 0 ? 1 + random.nextInt(2) : 0;
        for (int i = 0; i < spoils; i++) {
            text = spoilt(text);
        }
        return text.length() > 400 ? text.substring(0, 400) : text;
    }

    private String lines(int many) {
        StringBuilder text = new StringBuilder(blank(false));
        for (int i = 0; i < many; i++) {
            text.append("run").append(blank(true)).append(sum());
            if (random.nextInt(3) > 0) {
                text.append(blank(true)).append("when").append(blank(true)).append(any(0));
            }
            text.append(blank(false)).append(';').append(blank(false));
        }
        return text.toString();
    }

    private String deep() {
        StringBuilder text = new StringBuilder("run hour*7 when ");
        int levels = 7 + random.nextInt(4);
        int closing = 0;
        for (int i = 0; i < levels; i++) {
            boolean isNot = random.nextBoolean();
            text.append(isNot ? "not " : "(");
            closing += isNot ? 0 : 1;
        }
        text.append("row<2");
        for (int i = 0; i < closing; i++) {
            text.append(random.nextInt(3) == 0 ? " or not kind=0)" : ")");
        }
        return text.append(';').toString();
    }

    private String many() {
        StringBuilder text = new StringBuilder();
        int lines = 14 + random.nextInt(5);
        for (int i = 0; i < lines; i++) {
            text.append("run ").append(random.nextInt(1100)).append(" when row=").append(random.nextInt(9)).append(";");
        }
        return text.toString();
    }

    private String spoilt(String text) {
        int at = random.nextInt(text.length() + 1);
        String with = SPOILS[random.nextInt(SPOILS.length)];
        int to = Math.min(text.length(), at + random.nextInt(3));
        switch (random.nextInt(4)) {
            case 0:
                return text.substring(0, at) + with + text.substring(to);
            case 1:
                return text.substring(0, at) + text.substring(to);
            case 2:
                return text.substring(0, at);
            default:
                return text.substring(0, at) + with + text.substring(at);
        }
    }

    private String blank(boolean needed) {
        int sort = random.nextInt(6);
        return sort == 0 ? "\n" : sort == 1 ? "  " : sort < 4 || needed ? " " : "";
    }

    private String unit() {
        if (random.nextInt(3) > 0) {
            return TRAITS[random.nextInt(TRAITS.length)];
        }
        return String.valueOf(random.nextInt(10) == 0 ? random.nextInt(10000) : random.nextInt(300));
    }

    private String product() {
        StringBuilder text = new StringBuilder(unit());
        for (int i = random.nextInt(3); i > 0; i--) {
            if (random.nextInt(3) == 0) {
                text.append(blank(false)).append('/').append(blank(false)).append(1 + random.nextInt(9));
            } else {
                text.append(blank(false)).append('*').append(blank(false)).append(unit());
            }
        }
        return text.toString();
    }

    private String sum() {
        StringBuilder text = new StringBuilder(product());
        for (int i = random.nextInt(3); i > 0; i--) {
            text.append(blank(false)).append(random.nextBoolean() ? '+' : '-').append(blank(false)).append(product());
        }
        return text.toString();
    }

    private String any(int depth) {
        StringBuilder text = new StringBuilder(one(depth));
        for (int i = random.nextInt(3); i > 0; i--) {
            text.append(blank(true)).append(random.nextBoolean() ? "or" : "and").append(blank(true)).append(one(depth));
        }
        return text.toString();
    }

    private String one(int depth) {
        int sort = depth > 3 ? 9 : random.nextInt(6);
        if (sort == 0) {
            return "not" + blank(true) + one(depth + 1);
        }
        if (sort == 1) {
            return "(" + blank(false) + any(depth + 1) + blank(false) + ")";
        }
        return sum() + blank(false) + "<=>".charAt(random.nextInt(3)) + blank(false) + sum();
    }
}
