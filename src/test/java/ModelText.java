import java.util.ArrayList;
import java.util.List;
import java.util.regex.Matcher;
import java.util.regex.Pattern;

/**
 * A TEXT of the model: tokens by a pattern; whether one can stand somewhere by a machine that goes from token to
 * token with a stack of open levels (not by descent, as ShoreDay reads it); values by splitting at the last operator.
 */
final class ModelText {
    private static final Pattern TOKEN = Pattern.compile("[a-z]+|[0-9]+|[^a-z0-9\n ]");
    private static final List<String> WORDS = List.of("guests", "tour", "hour", "rank", "ship", "landed");
    private final List<String> tokens = new ArrayList<>();
    private final List<Integer> places = new ArrayList<>();
    private final int fault;

    ModelText(String text) {
        Matcher matcher = TOKEN.matcher(text);
        while (matcher.find()) {
            tokens.add(matcher.group());
            places.add(matcher.start());
        }
        tokens.add("end");
        places.add(text.length());
        fault = findFault();
    }

    int fault() {
        return fault;
    }

    int lines() {
        return (int) tokens.stream().filter(";"::equals).count();
    }

    private static boolean isNumber(String token) {
        return token.matches("[0-9]{1,4}");
    }

    private int findFault() {
        String state = "line";
        int lines = 0;
        // For each open level, whether its TEST has had its < or = already.
        List<Boolean> compared = new ArrayList<>();
        for (int i = 0; i < tokens.size(); i++) {
            boolean isEnd = i == tokens.size() - 1;
            String token = isEnd ? "" : tokens.get(i);
            int top = compared.size() - 1;
            int kind = 0;
            switch (state) {
                case "line":
                    if (isEnd) {
                        return 0;
                    }
                    kind = !token.equals("fee") ? 1 : lines == 16 ? 5 : 0;
                    state = "fee";
                    break;
                case "fee":
                    kind = !isNumber(token) ? 1 : Integer.parseInt(token) > 999 ? 4 : 0;
                    state = "when";
                    break;
                case "when":
                    kind = token.equals("when") ? 0 : 1;
                    compared = new ArrayList<>(List.of(false));
                    state = "part";
                    break;
                case "part":
                    boolean isPart = isNumber(token) || WORDS.contains(token) || token.equals("(");
                    kind = !isPart ? 1 : compared.size() > 5 ? 5 : 0;
                    if (token.equals("(")) {
                        compared.add(false);
                    } else {
                        state = "behind";
                    }
                    break;
                default:
                    if (token.equals("+") || token.equals("-")) {
                        state = "part";
                    } else if ((token.equals("<") || token.equals("=")) && !compared.get(top)) {
                        compared.set(top, true);
                        state = "part";
                    } else if (token.equals("and")) {
                        compared.set(top, false);
                        state = "part";
                    } else if (token.equals(")") && top > 0) {
                        compared.remove(top);
                    } else if (token.equals(";") && top == 0) {
                        lines++;
                        state = "line";
                    } else {
                        kind = 1;
                    }
            }
            if (kind != 0) {
                return kind + 16 * places.get(i);
            }
        }
        throw new IllegalStateException("the end is always reached");
    }

    int fee(int[] facts) {
        int begin = 0;
        for (int i = 0; i < tokens.size() - 1; i++) {
            if (tokens.get(i).equals(";")) {
                if (value(tokens.subList(begin + 3, i), facts) != 0) {
                    return Integer.parseInt(tokens.get(begin + 1));
                }
                begin = i + 1;
            }
        }
        return 0;
    }

    private static int value(List<String> e, int[] facts) {
        for (List<String> operators : List.of(List.of("and"), List.of("<", "="), List.of("+", "-"))) {
            int depth = 0;
            for (int i = e.size() - 1; i >= 0; i--) {
                depth += e.get(i).equals(")") ? 1 : e.get(i).equals("(") ? -1 : 0;
                if (depth == 0 && operators.contains(e.get(i))) {
                    int left = value(e.subList(0, i), facts);
                    int right = value(e.subList(i + 1, e.size()), facts);
                    switch (e.get(i)) {
                        case "and": return left != 0 && right != 0 ? 1 : 0;
                        case "<": return left < right ? 1 : 0;
                        case "=": return left == right ? 1 : 0;
                        case "+": return left + right;
                        default: return left - right;
                    }
                }
            }
        }
        if (e.get(0).equals("(")) {
            return value(e.subList(1, e.size() - 1), facts);
        }
        return WORDS.contains(e.get(0)) ? facts[WORDS.indexOf(e.get(0))] : Integer.parseInt(e.get(0));
    }
}
