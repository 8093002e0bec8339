import java.util.Arrays;
import java.util.stream.Collectors;

/** One call of a method of SimilarityJoin, told by its name, so that it can be made again on another object. */
record Call(String method, int... arguments) {
    int on(SimilarityJoin x) {
        int[] a = arguments;
        return switch (method + "/" + a.length) {
            case "token/1" -> x.token(a[0]);
            case "drop/1" -> x.drop(a[0]);
            case "clear/0" -> x.clear();
            case "recall/1" -> x.recall(a[0]);
            case "store/0" -> x.store();
            case "remove/1" -> x.remove(a[0]);
            case "threshold/2" -> x.threshold(a[0], a[1]);
            case "records/0" -> x.records();
            case "size/1" -> x.size(a[0]);
            case "has/2" -> x.has(a[0], a[1]);
            case "frequency/1" -> x.frequency(a[0]);
            case "common/2" -> x.common(a[0], a[1]);
            case "similar/2" -> x.similar(a[0], a[1]);
            case "pairs/0" -> x.pairs();
            case "degree/1" -> x.degree(a[0]);
            case "partner/2" -> x.partner(a[0], a[1]);
            case "nearest/1" -> x.nearest(a[0]);
            case "matches/0" -> x.matches();
            case "match/1" -> x.match(a[0]);
            case "containing/0" -> x.containing();
            case "groups/0" -> x.groups();
            case "groupOf/1" -> x.groupOf(a[0]);
            case "groupSize/1" -> x.groupSize(a[0]);
            default -> throw new IllegalArgumentException("no such method: " + this);
        };
    }

    @Override
    public String toString() {
        return method + Arrays.stream(arguments).mapToObj(Integer::toString).collect(Collectors.joining(", ", "(", ")"));
    }
}
