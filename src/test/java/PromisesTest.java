public final class PromisesTest {
    public static void main(String[] args) {
        FareNumbers x = new FareNumbers();
        if (x.names() != 5040) {
            System.out.println("names() of a new object is not 5040");
            System.exit(1);
        }
    }
}
