import java.util.Arrays;

/** One call of one of the nine methods; a boolean answer counts 1 or 0. */
record Call(String method, int... arguments) {
    int on(Face face) {
        int[] a = arguments;
        return switch (method) {
            case "shifter" -> face.shifter(a[0], a[1]) ? 1 : 0;
            case "want" -> face.want(a[0], a[1], a[2], a[3]) ? 1 : 0;
            case "expand" -> face.expand(a[0], a[1], a[2]);
            case "seeds" -> face.seeds(a[0]);
            case "leastSeed" -> face.leastSeed(a[0]);
            case "greatestSeed" -> face.greatestSeed(a[0]);
            case "forced" -> face.forced(a[0], a[1], a[2]);
            case "seedsNeeded" -> face.seedsNeeded(a[0]);
            case "forget" -> face.forget(a[0]) ? 1 : 0;
            default -> throw new IllegalArgumentException(method);
        };
    }

    /** What the method answers to wrong arguments. */
    int refusal() {
        return switch (method) {
            case "shifter", "want", "forget" -> 0;
            default -> -1;
        };
    }

    @Override
    public String toString() {
        String list = Arrays.toString(arguments);
        return method + "(" + list.substring(1, list.length() - 1) + ")";
    }
}
